set_option maxRecDepth 100000 in
set_option maxHeartbeats 4000000 in
theorem B_x9_refuse_b22 (s : Sg) (l1 : Int32) (y0 : Int32) (r : (Sg × Int32)) (h : x9_refuse_b22 s l1 y0 = some r) : g_Go M_x9_refuse retI 0 22 [some (.inr (.inr (some (9, 0)))), some (.inl l1), none] [.inl y0] s r := by
  have ht : g_Gd M_x9_refuse retI 0 22 (t_x9_refuse_b22) := (G_stIn (n := 2) (nx := 23) (by show 2 < 3; decide) (dc61 bs_x9_refuse (by decide +kernel)) rfl rfl (G_ldIn (n := 2) (nx := 24) (dc28 bs_x9_refuse (by decide +kernel)) rfl rfl (G_iflt (off := 22) (tg := 46) (nf := 27) (dc155 (x := 0) (y := 22) bs_x9_refuse (by decide +kernel) (by decide +kernel)) (by decide +kernel) rfl
    (G_ldIn (n := 1) (nx := 47) (dc27 bs_x9_refuse (by decide +kernel)) rfl rfl (G_iret rfl (dc172 bs_x9_refuse (by decide +kernel))))
    (G_ldIn (n := 2) (nx := 28) (dc28 bs_x9_refuse (by decide +kernel)) rfl rfl (G_ldAn (n := 0) (nx := 29) (dc42 bs_x9_refuse (by decide +kernel)) rfl rfl (G_getRc (nx := 32) fl_9_72 rf_9_12 (dc180 (x := 0) (y := 72) bs_x9_refuse (by decide +kernel) rfl) rfl (G_alen (nx := 33) ak_41 (by decide) (dc190 bs_x9_refuse (by decide +kernel)) rfl (G_icmpge (off := 13) (tg := 46) (nf := 36) (dc162 (x := 0) (y := 13) bs_x9_refuse (by decide +kernel) (by decide +kernel)) (by decide +kernel) rfl
      (G_ldAn (n := 0) (nx := 37) (dc42 bs_x9_refuse (by decide +kernel)) rfl rfl (G_getRc (nx := 40) fl_9_72 rf_9_12 (dc180 (x := 0) (y := 72) bs_x9_refuse (by decide +kernel) rfl) rfl (G_ldIn (n := 2) (nx := 41) (dc28 bs_x9_refuse (by decide +kernel)) rfl rfl (G_dup2 (nx := 42) (dc92 bs_x9_refuse (by decide +kernel)) rfl (G_iald (nx := 43) ak_41 (dc46 bs_x9_refuse (by decide +kernel)) rfl (G_ic (n := 1) (nx := 44) (dc4 bs_x9_refuse (by decide +kernel)) icv_1 rfl (G_iadd (nx := 45) (dc96 bs_x9_refuse (by decide +kernel)) rfl (G_iast (nx := 46) ak_41 (by decide) (dc79 bs_x9_refuse (by decide +kernel)) rfl (G_ldIn (n := 1) (nx := 47) (dc27 bs_x9_refuse (by decide +kernel)) rfl rfl (G_iret rfl (dc172 bs_x9_refuse (by decide +kernel))))))))))))
      (G_ldIn (n := 1) (nx := 47) (dc27 bs_x9_refuse (by decide +kernel)) rfl rfl (G_iret rfl (dc172 bs_x9_refuse (by decide +kernel))))))))))))
  exact ht _ _ s r ((e_x9_refuse_b22  s l1 y0).symm.trans h)

set_option maxRecDepth 100000 in
set_option maxHeartbeats 4000000 in
theorem h_x9_refuse : g_Ft M_x9_refuse yX9_refuse 2 (FW_x9_refuse x9_refuse) := by
  intro l w hw σ as hlen hwf hok ρ k r e
  unfold FW_x9_refuse at e
  obtain ⟨hh0, e⟩ := p_C_inv e
  obtain ⟨l1, hh1, e⟩ := p_I_inv e
  have e := p_E_inv e
  obtain ⟨q, e1, e2⟩ := Option.bind_eq_some_iff.mp e
  have has : as = [.inr (.inr (some (9, 0))), .inl l1] := g_as2 hlen hh0 hh1
  subst has
  have hGo : g_Go M_x9_refuse retI (me M_x9_refuse) 0 (g_loc [.inr (.inr (some (9, 0))), .inl l1] (ml M_x9_refuse)) [] σ q := by
    have ht : g_Gd M_x9_refuse retI (me M_x9_refuse) 0 (t_x9_refuse (x9_refuse_b22)) := (G_ldAn (n := 0) (nx := 1) (dc42 bs_x9_refuse (by decide +kernel)) rfl rfl (G_ldIn (n := 1) (nx := 2) (dc27 bs_x9_refuse (by decide +kernel)) rfl rfl (G_putI (nx := 5) fp_9_312 rfl (dc181 (x := 1) (y := 56) bs_x9_refuse (by decide +kernel) rfl) rfl (G_ldIn (n := 1) (nx := 6) (dc27 bs_x9_refuse (by decide +kernel)) rfl rfl (G_bi (n := -5) (nx := 8) (dc16 (x := 251) bs_x9_refuse (by decide +kernel) (by decide +kernel)) biv_m5 rfl (G_icmple (off := 10) (tg := 18) (nf := 11) (dc164 (x := 0) (y := 10) bs_x9_refuse (by decide +kernel) (by decide +kernel)) (by decide +kernel) rfl
  (G_ldIn (n := 1) (nx := 12) (dc27 bs_x9_refuse (by decide +kernel)) rfl rfl (G_neg (nx := 13) (dc116 bs_x9_refuse (by decide +kernel)) rfl (G_ic (n := 1) (nx := 14) (dc4 bs_x9_refuse (by decide +kernel)) icv_1 rfl (G_isub (nx := 15) (dc100 bs_x9_refuse (by decide +kernel)) rfl (G_goto (off := 7) (nx := 22) (dc167 (x := 0) (y := 7) bs_x9_refuse (by decide +kernel) (by decide +kernel)) (by decide +kernel) (G_lbl (Gp_C <| Gp_I fun a1 => Gq_I fun b0 => Gp_E fun s r h => B_x9_refuse_b22 s a1 b0 r h)))))))
  (G_ldIn (n := 1) (nx := 19) (dc27 bs_x9_refuse (by decide +kernel)) rfl rfl (G_neg (nx := 20) (dc116 bs_x9_refuse (by decide +kernel)) rfl (G_ic (n := 2) (nx := 21) (dc5 bs_x9_refuse (by decide +kernel)) icv_2 rfl (G_isub (nx := 22) (dc100 bs_x9_refuse (by decide +kernel)) rfl (G_lbl (Gp_C <| Gp_I fun a1 => Gq_I fun b0 => Gp_E fun s r h => B_x9_refuse_b22 s a1 b0 r h))))))))))))
    exact ht _ _ σ q ((e_x9_refuse (x9_refuse_b22) σ l1).symm.trans e1)
  exact g_meth (σ' := q.1) (v := some (.inl q.2)) (by decide) rfl hw hwf hok (Nat.le_of_ble_eq_true rfl) hGo (fun σ2 v2 h => retI_inv h) (by exact e2)

set_option maxRecDepth 100000 in
set_option maxHeartbeats 4000000 in
theorem h_x9_answer : g_Ft M_x9_answer yX9_answer 2 (FW_x9_answer x9_answer) := by
  intro l w hw σ as hlen hwf hok ρ k r e
  unfold FW_x9_answer at e
  obtain ⟨hh0, e⟩ := p_C_inv e
  obtain ⟨l1, hh1, e⟩ := p_I_inv e
  have e := p_E_inv e
  obtain ⟨q, e1, e2⟩ := Option.bind_eq_some_iff.mp e
  have has : as = [.inr (.inr (some (9, 0))), .inl l1] := g_as2 hlen hh0 hh1
  subst has
  have hGo : g_Go M_x9_answer retI (me M_x9_answer) 0 (g_loc [.inr (.inr (some (9, 0))), .inl l1] (ml M_x9_answer)) [] σ q := by
    have ht : g_Gd M_x9_answer retI (me M_x9_answer) 0 (t_x9_answer) := (G_ldAn (n := 0) (nx := 1) (dc42 bs_x9_answer (by decide +kernel)) rfl rfl (G_ic (n := 0) (nx := 2) (dc3 bs_x9_answer (by decide +kernel)) icv_0 rfl (G_putI (nx := 5) fp_9_312 rfl (dc181 (x := 1) (y := 56) bs_x9_answer (by decide +kernel) rfl) rfl (G_ldIn (n := 1) (nx := 6) (dc27 bs_x9_answer (by decide +kernel)) rfl rfl (G_iret rfl (dc172 bs_x9_answer (by decide +kernel)))))))
    exact ht _ _ σ q ((e_x9_answer  σ l1).symm.trans e1)
  exact g_meth (σ' := q.1) (v := some (.inl q.2)) (by decide) rfl hw hwf hok (Nat.le_of_ble_eq_true rfl) hGo (fun σ2 v2 h => retI_inv h) (by exact e2)

set_option maxRecDepth 100000 in
set_option maxHeartbeats 4000000 in
theorem h_x9_word : g_Ft M_x9_word yX9_word 4 (FW_x9_word x9_word) := by
  intro l w hw σ as hlen hwf hok ρ k r e
  unfold FW_x9_word at e
  obtain ⟨hh0, e⟩ := p_C_inv e
  obtain ⟨l1, hh1, e⟩ := p_I_inv e
  obtain ⟨l2, hh2, e⟩ := p_I_inv e
  obtain ⟨l3, hh3, e⟩ := p_I_inv e
  have e := p_E_inv e
  obtain ⟨q, e1, e2⟩ := Option.bind_eq_some_iff.mp e
  have has : as = [.inr (.inr (some (9, 0))), .inl l1, .inl l2, .inl l3] := g_as4 hlen hh0 hh1 hh2 hh3
  subst has
  have hGo : g_Go M_x9_word retI (me M_x9_word) 0 (g_loc [.inr (.inr (some (9, 0))), .inl l1, .inl l2, .inl l3] (ml M_x9_word)) [] σ q := by
    have ht : g_Gd M_x9_word retI (me M_x9_word) 0 (t_x9_word x9_canBeWord x9_refuse x1_addWord x9_answer) := (G_ldIn (n := 1) (nx := 1) (dc27 bs_x9_word (by decide +kernel)) rfl rfl (G_ldIn (n := 2) (nx := 2) (dc28 bs_x9_word (by decide +kernel)) rfl rfl (G_ldIn (n := 3) (nx := 3) (dc29 bs_x9_word (by decide +kernel)) rfl rfl (G_callS (b0 := 0) (nx := 6) (g_Fn_of rfl h_x9_canBeWord) (cw_9_80) wd2_182 rfl ⟨by decide, by show 3 ≤ 21; decide⟩ (Nat.zero_le _) (dc184 (x := 0) (y := 80) bs_x9_word (by decide +kernel) rfl) rfl (G_ifne (off := 9) (tg := 15) (nf := 9) (dc154 (x := 0) (y := 9) bs_x9_word (by decide +kernel) (by decide +kernel)) (by decide +kernel) rfl
  (G_ldAn (n := 0) (nx := 10) (dc42 bs_x9_word (by decide +kernel)) rfl rfl (G_ic (n := -1) (nx := 11) (dc2 bs_x9_word (by decide +kernel)) icv_m1 rfl (G_callV (b0 := 0) (nx := 14) (T := TX9) (ci := 9) (g_Fn_of rfl h_x9_refuse) (cw_9_84) ⟨wd2_186, sel_GalleyRoom_refuse__I_I⟩ ⟨rfl, rfl⟩ ⟨by decide, by show 3 ≤ 21; decide⟩ (Nat.zero_le _) (rec_x9_refuse _) (dc182 (x := 0) (y := 84) bs_x9_word (by decide +kernel) rfl) rfl (G_iret rfl (dc172 bs_x9_word (by decide +kernel))))))
  (G_ldAn (n := 0) (nx := 16) (dc42 bs_x9_word (by decide +kernel)) rfl rfl (G_getRc (nx := 19) fl_9_20 rf_9_1 (dc180 (x := 0) (y := 20) bs_x9_word (by decide +kernel) rfl) rfl (G_getI (nx := 22) fl_9_88 (Or.inl rfl) (dc180 (x := 0) (y := 88) bs_x9_word (by decide +kernel) rfl) rfl (G_bi (n := 12) (nx := 24) (dc16 (x := 12) bs_x9_word (by decide +kernel) (by decide +kernel)) biv_12 rfl (G_icmplt (off := 10) (tg := 34) (nf := 27) (dc161 (x := 0) (y := 10) bs_x9_word (by decide +kernel) (by decide +kernel)) (by decide +kernel) rfl
    (G_ldAn (n := 0) (nx := 35) (dc42 bs_x9_word (by decide +kernel)) rfl rfl (G_getRc (nx := 38) fl_9_20 rf_9_1 (dc180 (x := 0) (y := 20) bs_x9_word (by decide +kernel) rfl) rfl (G_ldIn (n := 1) (nx := 39) (dc27 bs_x9_word (by decide +kernel)) rfl rfl (G_ldIn (n := 2) (nx := 40) (dc28 bs_x9_word (by decide +kernel)) rfl rfl (G_ldIn (n := 3) (nx := 41) (dc29 bs_x9_word (by decide +kernel)) rfl rfl (G_callV (b0 := 0) (nx := 44) (T := TX1) (ci := 1) (g_Fn_of rfl h_x1_addWord) (cw_9_91) ⟨wd2_189, wd2_190⟩ ⟨rfl, rfl⟩ ⟨by decide, by show 4 ≤ 21; decide⟩ (Nat.zero_le _) (rec_x1_addWord _) (dc182 (x := 0) (y := 91) bs_x9_word (by decide +kernel) rfl) rfl (G_ldAn (n := 0) (nx := 45) (dc42 bs_x9_word (by decide +kernel)) rfl rfl (G_getRc (nx := 48) fl_9_55 rf_9_8 (dc180 (x := 0) (y := 55) bs_x9_word (by decide +kernel) rfl) rfl (G_ic (n := 0) (nx := 49) (dc3 bs_x9_word (by decide +kernel)) icv_0 rfl (G_putI (nx := 52) fp_9_95 rfl (dc181 (x := 0) (y := 95) bs_x9_word (by decide +kernel) rfl) rfl (G_ldAn (n := 0) (nx := 53) (dc42 bs_x9_word (by decide +kernel)) rfl rfl (G_ldAn (n := 0) (nx := 54) (dc42 bs_x9_word (by decide +kernel)) rfl rfl (G_getRc (nx := 57) fl_9_20 rf_9_1 (dc180 (x := 0) (y := 20) bs_x9_word (by decide +kernel) rfl) rfl (G_getI (nx := 60) fl_9_88 (Or.inl rfl) (dc180 (x := 0) (y := 88) bs_x9_word (by decide +kernel) rfl) rfl (G_ic (n := 1) (nx := 61) (dc4 bs_x9_word (by decide +kernel)) icv_1 rfl (G_isub (nx := 62) (dc100 bs_x9_word (by decide +kernel)) rfl (G_callV (b0 := 0) (nx := 65) (T := TX9) (ci := 9) (g_Fn_of rfl h_x9_answer) (cw_9_100) ⟨wd2_194, sel_GalleyRoom_answer__I_I⟩ ⟨rfl, rfl⟩ ⟨by decide, by show 2 ≤ 21; decide⟩ (Nat.zero_le _) (rec_x9_answer _) (dc182 (x := 0) (y := 100) bs_x9_word (by decide +kernel) rfl) rfl (G_iret rfl (dc172 bs_x9_word (by decide +kernel))))))))))))))))))))
    (G_ldAn (n := 0) (nx := 28) (dc42 bs_x9_word (by decide +kernel)) rfl rfl (G_bi (n := -5) (nx := 30) (dc16 (x := 251) bs_x9_word (by decide +kernel) (by decide +kernel)) biv_m5 rfl (G_callV (b0 := 0) (nx := 33) (T := TX9) (ci := 9) (g_Fn_of rfl h_x9_refuse) (cw_9_84) ⟨wd2_186, sel_GalleyRoom_refuse__I_I⟩ ⟨rfl, rfl⟩ ⟨by decide, by show 3 ≤ 21; decide⟩ (Nat.zero_le _) (rec_x9_refuse _) (dc182 (x := 0) (y := 84) bs_x9_word (by decide +kernel) rfl) rfl (G_iret rfl (dc172 bs_x9_word (by decide +kernel))))))))))))))))
    exact ht _ _ σ q ((e_x9_word x9_canBeWord x9_refuse x1_addWord x9_answer σ l1 l2 l3).symm.trans e1)
  exact g_meth (σ' := q.1) (v := some (.inl q.2)) (by decide) rfl hw hwf hok (Nat.le_of_ble_eq_true rfl) hGo (fun σ2 v2 h => retI_inv h) (by exact e2)

set_option maxRecDepth 100000 in
set_option maxHeartbeats 4000000 in
theorem h_x9_of : g_Ft M_x9_of yX9_of 3 (FW_x9_of x9_of) := by
  intro l w hw σ as hlen hwf hok ρ k r e
  unfold FW_x9_of at e
  obtain ⟨hh0, e⟩ := p_C_inv e
  obtain ⟨l1, hh1, e⟩ := p_I_inv e
  obtain ⟨l2, hh2, e⟩ := p_I_inv e
  have e := p_E_inv e
  obtain ⟨q, e1, e2⟩ := Option.bind_eq_some_iff.mp e
  have has : as = [.inr (.inr (some (9, 0))), .inl l1, .inl l2] := g_as3 hlen hh0 hh1 hh2
  subst has
  have hGo : g_Go M_x9_of retI (me M_x9_of) 0 (g_loc [.inr (.inr (some (9, 0))), .inl l1, .inl l2] (ml M_x9_of)) [] σ q := by
    have ht : g_Gd M_x9_of retI (me M_x9_of) 0 (t_x9_of x1_has x1_endsAfter x1_isSplit) := (G_ldAn (n := 0) (nx := 1) (dc42 bs_x9_of (by decide +kernel)) rfl rfl (G_getRc (nx := 4) fl_9_20 rf_9_1 (dc180 (x := 0) (y := 20) bs_x9_of (by decide +kernel) rfl) rfl (G_ldIn (n := 1) (nx := 5) (dc27 bs_x9_of (by decide +kernel)) rfl rfl (G_callV (b0 := 0) (nx := 8) (T := TX1) (ci := 1) (g_Fn_of rfl h_x1_has) (cw_9_103) ⟨wd2_201, wd2_202⟩ ⟨rfl, rfl⟩ ⟨by decide, by show 2 ≤ 21; decide⟩ (Nat.zero_le _) (rec_x1_has _) (dc182 (x := 0) (y := 103) bs_x9_of (by decide +kernel) rfl) rfl (G_ifne (off := 5) (tg := 13) (nf := 11) (dc154 (x := 0) (y := 5) bs_x9_of (by decide +kernel) (by decide +kernel)) (by decide +kernel) rfl
  (G_ic (n := -1) (nx := 12) (dc2 bs_x9_of (by decide +kernel)) icv_m1 rfl (G_iret rfl (dc172 bs_x9_of (by decide +kernel))))
  (G_ldIn (n := 2) (nx := 14) (dc28 bs_x9_of (by decide +kernel)) rfl rfl (G_sw (dflt := 98) (lo := 0) (hi := 4) (offs := #[34, 44, 54, 64, 81]) (len := 34) (td := 112) (by decide +kernel) (by decide +kernel)
    (List.forall_mem_cons.mpr ⟨⟨34, 48, by decide +kernel, by decide +kernel, by decide +kernel, by decide +kernel,
    (G_ldAn (n := 0) (nx := 49) (dc42 bs_x9_of (by decide +kernel)) rfl rfl (G_getRc (nx := 52) fl_9_20 rf_9_1 (dc180 (x := 0) (y := 20) bs_x9_of (by decide +kernel) rfl) rfl (G_getRv (nx := 55) fl_9_107 rf_1_0 (dc180 (x := 0) (y := 107) bs_x9_of (by decide +kernel) rfl) rfl (G_ldIn (n := 1) (nx := 56) (dc27 bs_x9_of (by decide +kernel)) rfl rfl (G_iald (nx := 57) ak_12 (dc46 bs_x9_of (by decide +kernel)) rfl (G_iret rfl (dc172 bs_x9_of (by decide +kernel))))))))⟩, List.forall_mem_cons.mpr ⟨⟨44, 58, by decide +kernel, by decide +kernel, by decide +kernel, by decide +kernel,
    (G_ldAn (n := 0) (nx := 59) (dc42 bs_x9_of (by decide +kernel)) rfl rfl (G_getRc (nx := 62) fl_9_20 rf_9_1 (dc180 (x := 0) (y := 20) bs_x9_of (by decide +kernel) rfl) rfl (G_getRv (nx := 65) fl_9_110 rf_1_1 (dc180 (x := 0) (y := 110) bs_x9_of (by decide +kernel) rfl) rfl (G_ldIn (n := 1) (nx := 66) (dc27 bs_x9_of (by decide +kernel)) rfl rfl (G_iald (nx := 67) ak_13 (dc46 bs_x9_of (by decide +kernel)) rfl (G_iret rfl (dc172 bs_x9_of (by decide +kernel))))))))⟩, List.forall_mem_cons.mpr ⟨⟨54, 68, by decide +kernel, by decide +kernel, by decide +kernel, by decide +kernel,
    (G_ldAn (n := 0) (nx := 69) (dc42 bs_x9_of (by decide +kernel)) rfl rfl (G_getRc (nx := 72) fl_9_20 rf_9_1 (dc180 (x := 0) (y := 20) bs_x9_of (by decide +kernel) rfl) rfl (G_getRv (nx := 75) fl_9_113 rf_1_2 (dc180 (x := 0) (y := 113) bs_x9_of (by decide +kernel) rfl) rfl (G_ldIn (n := 1) (nx := 76) (dc27 bs_x9_of (by decide +kernel)) rfl rfl (G_iald (nx := 77) ak_14 (dc46 bs_x9_of (by decide +kernel)) rfl (G_iret rfl (dc172 bs_x9_of (by decide +kernel))))))))⟩, List.forall_mem_cons.mpr ⟨⟨64, 78, by decide +kernel, by decide +kernel, by decide +kernel, by decide +kernel,
    (G_ldAn (n := 0) (nx := 79) (dc42 bs_x9_of (by decide +kernel)) rfl rfl (G_getRc (nx := 82) fl_9_20 rf_9_1 (dc180 (x := 0) (y := 20) bs_x9_of (by decide +kernel) rfl) rfl (G_ldIn (n := 1) (nx := 83) (dc27 bs_x9_of (by decide +kernel)) rfl rfl (G_callV (b0 := 0) (nx := 86) (T := TX1) (ci := 1) (g_Fn_of rfl h_x1_endsAfter) (cw_9_116) ⟨wd2_205, wd2_206⟩ ⟨rfl, rfl⟩ ⟨by decide, by show 2 ≤ 21; decide⟩ (Nat.zero_le _) (rec_x1_endsAfter _) (dc182 (x := 0) (y := 116) bs_x9_of (by decide +kernel) rfl) rfl (G_ifeq (off := 7) (tg := 93) (nf := 89) (dc153 (x := 0) (y := 7) bs_x9_of (by decide +kernel) (by decide +kernel)) (by decide +kernel) rfl
      (G_ic (n := 0) (nx := 94) (dc3 bs_x9_of (by decide +kernel)) icv_0 rfl (G_iret rfl (dc172 bs_x9_of (by decide +kernel))))
      (G_ic (n := 1) (nx := 90) (dc4 bs_x9_of (by decide +kernel)) icv_1 rfl (G_goto (off := 4) (nx := 94) (dc167 (x := 0) (y := 4) bs_x9_of (by decide +kernel) (by decide +kernel)) (by decide +kernel) (G_iret rfl (dc172 bs_x9_of (by decide +kernel))))))))))⟩, List.forall_mem_cons.mpr ⟨⟨81, 95, by decide +kernel, by decide +kernel, by decide +kernel, by decide +kernel,
    (G_ldAn (n := 0) (nx := 96) (dc42 bs_x9_of (by decide +kernel)) rfl rfl (G_getRc (nx := 99) fl_9_20 rf_9_1 (dc180 (x := 0) (y := 20) bs_x9_of (by decide +kernel) rfl) rfl (G_ldIn (n := 1) (nx := 100) (dc27 bs_x9_of (by decide +kernel)) rfl rfl (G_callV (b0 := 0) (nx := 103) (T := TX1) (ci := 1) (g_Fn_of rfl h_x1_isSplit) (cw_9_119) ⟨wd2_210, wd2_211⟩ ⟨rfl, rfl⟩ ⟨by decide, by show 2 ≤ 21; decide⟩ (Nat.zero_le _) (rec_x1_isSplit _) (dc182 (x := 0) (y := 119) bs_x9_of (by decide +kernel) rfl) rfl (G_ifeq (off := 7) (tg := 110) (nf := 106) (dc153 (x := 0) (y := 7) bs_x9_of (by decide +kernel) (by decide +kernel)) (by decide +kernel) rfl
      (G_ic (n := 0) (nx := 111) (dc3 bs_x9_of (by decide +kernel)) icv_0 rfl (G_iret rfl (dc172 bs_x9_of (by decide +kernel))))
      (G_ic (n := 1) (nx := 107) (dc4 bs_x9_of (by decide +kernel)) icv_1 rfl (G_goto (off := 4) (nx := 111) (dc167 (x := 0) (y := 4) bs_x9_of (by decide +kernel) (by decide +kernel)) (by decide +kernel) (G_iret rfl (dc172 bs_x9_of (by decide +kernel))))))))))⟩, fun _ h => absurd h List.not_mem_nil⟩⟩⟩⟩⟩)
    (g_swall _ (by decide +kernel) rfl)
    (G_ic (n := -1) (nx := 113) (dc2 bs_x9_of (by decide +kernel)) icv_m1 rfl (G_iret rfl (dc172 bs_x9_of (by decide +kernel)))))))))))
    exact ht _ _ σ q ((e_x9_of x1_has x1_endsAfter x1_isSplit σ l1 l2).symm.trans e1)
  exact g_meth (σ' := q.1) (v := some (.inl q.2)) (by decide) rfl hw hwf hok (Nat.le_of_ble_eq_true rfl) hGo (fun σ2 v2 h => retI_inv h) (by exact e2)

set_option maxRecDepth 100000 in
set_option maxHeartbeats 4000000 in
theorem h_x9_line : g_Ft M_x9_line yX9_line 3 (FW_x9_line x9_line) := by
  intro l w hw σ as hlen hwf hok ρ k r e
  unfold FW_x9_line at e
  obtain ⟨hh0, e⟩ := p_C_inv e
  obtain ⟨l1, hh1, e⟩ := p_I_inv e
  obtain ⟨l2, hh2, e⟩ := p_I_inv e
  have e := p_E_inv e
  obtain ⟨q, e1, e2⟩ := Option.bind_eq_some_iff.mp e
  have has : as = [.inr (.inr (some (9, 0))), .inl l1, .inl l2] := g_as3 hlen hh0 hh1 hh2
  subst has
  have hGo : g_Go M_x9_line retI (me M_x9_line) 0 (g_loc [.inr (.inr (some (9, 0))), .inl l1, .inl l2] (ml M_x9_line)) [] σ q := by
    have ht : g_Gd M_x9_line retI (me M_x9_line) 0 (t_x9_line x7_readSetting x7_tellOf) := (G_ldIn (n := 2) (nx := 1) (dc28 bs_x9_line (by decide +kernel)) rfl rfl (G_iflt (off := 9) (tg := 10) (nf := 4) (dc155 (x := 0) (y := 9) bs_x9_line (by decide +kernel) (by decide +kernel)) (by decide +kernel) rfl
  (G_ic (n := -1) (nx := 11) (dc2 bs_x9_line (by decide +kernel)) icv_m1 rfl (G_iret rfl (dc172 bs_x9_line (by decide +kernel))))
  (G_ldIn (n := 2) (nx := 5) (dc28 bs_x9_line (by decide +kernel)) rfl rfl (G_bi (n := 7) (nx := 7) (dc16 (x := 7) bs_x9_line (by decide +kernel) (by decide +kernel)) biv_7 rfl (G_icmplt (off := 5) (tg := 12) (nf := 10) (dc161 (x := 0) (y := 5) bs_x9_line (by decide +kernel) (by decide +kernel)) (by decide +kernel) rfl
    (G_ldAn (n := 0) (nx := 13) (dc42 bs_x9_line (by decide +kernel)) rfl rfl (G_getRc (nx := 16) fl_9_60 rf_9_9 (dc180 (x := 0) (y := 60) bs_x9_line (by decide +kernel) rfl) rfl (G_ldAn (n := 0) (nx := 17) (dc42 bs_x9_line (by decide +kernel)) rfl rfl (G_getRc (nx := 20) fl_9_20 rf_9_1 (dc180 (x := 0) (y := 20) bs_x9_line (by decide +kernel) rfl) rfl (G_callV (b0 := 0) (nx := 23) (T := TX7) (ci := 7) (g_Fn_of rfl h_x7_readSetting) (cw_9_122) ⟨wd2_218, wd2_219⟩ ⟨rfl, rfl⟩ ⟨by decide, by show 4 ≤ 21; decide⟩ (Nat.zero_le _) (rec_x7_readSetting _) (dc182 (x := 0) (y := 122) bs_x9_line (by decide +kernel) rfl) rfl (G_ldIn (n := 1) (nx := 24) (dc27 bs_x9_line (by decide +kernel)) rfl rfl (G_iflt (off := 26) (tg := 50) (nf := 27) (dc155 (x := 0) (y := 26) bs_x9_line (by decide +kernel) (by decide +kernel)) (by decide +kernel) rfl
      (G_ic (n := -1) (nx := 51) (dc2 bs_x9_line (by decide +kernel)) icv_m1 rfl (G_iret rfl (dc172 bs_x9_line (by decide +kernel))))
      (G_ldIn (n := 1) (nx := 28) (dc27 bs_x9_line (by decide +kernel)) rfl rfl (G_ldAn (n := 0) (nx := 29) (dc42 bs_x9_line (by decide +kernel)) rfl rfl (G_getRc (nx := 32) fl_9_60 rf_9_9 (dc180 (x := 0) (y := 60) bs_x9_line (by decide +kernel) rfl) rfl (G_getI (nx := 35) fl_9_128 (Or.inl rfl) (dc180 (x := 0) (y := 128) bs_x9_line (by decide +kernel) rfl) rfl (G_icmpge (off := 15) (tg := 50) (nf := 38) (dc162 (x := 0) (y := 15) bs_x9_line (by decide +kernel) (by decide +kernel)) (by decide +kernel) rfl
        (G_ldAn (n := 0) (nx := 39) (dc42 bs_x9_line (by decide +kernel)) rfl rfl (G_getRc (nx := 42) fl_9_60 rf_9_9 (dc180 (x := 0) (y := 60) bs_x9_line (by decide +kernel) rfl) rfl (G_ldIn (n := 2) (nx := 43) (dc28 bs_x9_line (by decide +kernel)) rfl rfl (G_ldIn (n := 1) (nx := 44) (dc27 bs_x9_line (by decide +kernel)) rfl rfl (G_callV (b0 := 0) (nx := 47) (T := TX7) (ci := 7) (g_Fn_of rfl h_x7_tellOf) (cw_9_131) ⟨wd3_40, wd3_41⟩ ⟨rfl, rfl⟩ ⟨by decide, by show 3 ≤ 21; decide⟩ (Nat.zero_le _) (rec_x7_tellOf _) (dc182 (x := 0) (y := 131) bs_x9_line (by decide +kernel) rfl) rfl (G_goto (off := 4) (nx := 51) (dc167 (x := 0) (y := 4) bs_x9_line (by decide +kernel) (by decide +kernel)) (by decide +kernel) (G_iret rfl (dc172 bs_x9_line (by decide +kernel)))))))))
        (G_ic (n := -1) (nx := 51) (dc2 bs_x9_line (by decide +kernel)) icv_m1 rfl (G_iret rfl (dc172 bs_x9_line (by decide +kernel))))))))))))))))
    (G_ic (n := -1) (nx := 11) (dc2 bs_x9_line (by decide +kernel)) icv_m1 rfl (G_iret rfl (dc172 bs_x9_line (by decide +kernel)))))))))
    exact ht _ _ σ q ((e_x9_line x7_readSetting x7_tellOf σ l1 l2).symm.trans e1)
  exact g_meth (σ' := q.1) (v := some (.inl q.2)) (by decide) rfl hw hwf hok (Nat.le_of_ble_eq_true rfl) hGo (fun σ2 v2 h => retI_inv h) (by exact e2)

set_option maxRecDepth 100000 in
set_option maxHeartbeats 4000000 in
theorem h_x9_all : g_Ft M_x9_all yX9_all 2 (FW_x9_all x9_all) := by
  intro l w hw σ as hlen hwf hok ρ k r e
  unfold FW_x9_all at e
  obtain ⟨hh0, e⟩ := p_C_inv e
  obtain ⟨l1, hh1, e⟩ := p_I_inv e
  have e := p_E_inv e
  obtain ⟨q, e1, e2⟩ := Option.bind_eq_some_iff.mp e
  have has : as = [.inr (.inr (some (9, 0))), .inl l1] := g_as2 hlen hh0 hh1
  subst has
  have hGo : g_Go M_x9_all retI (me M_x9_all) 0 (g_loc [.inr (.inr (some (9, 0))), .inl l1] (ml M_x9_all)) [] σ q := by
    have ht : g_Gd M_x9_all retI (me M_x9_all) 0 (t_x9_all x7_readSetting x7_together) := (G_ldAn (n := 0) (nx := 1) (dc42 bs_x9_all (by decide +kernel)) rfl rfl (G_getRc (nx := 4) fl_9_60 rf_9_9 (dc180 (x := 0) (y := 60) bs_x9_all (by decide +kernel) rfl) rfl (G_ldAn (n := 0) (nx := 5) (dc42 bs_x9_all (by decide +kernel)) rfl rfl (G_getRc (nx := 8) fl_9_20 rf_9_1 (dc180 (x := 0) (y := 20) bs_x9_all (by decide +kernel) rfl) rfl (G_callV (b0 := 0) (nx := 11) (T := TX7) (ci := 7) (g_Fn_of rfl h_x7_readSetting) (cw_9_122) ⟨wd2_218, wd2_219⟩ ⟨rfl, rfl⟩ ⟨by decide, by show 4 ≤ 21; decide⟩ (Nat.zero_le _) (rec_x7_readSetting _) (dc182 (x := 0) (y := 122) bs_x9_all (by decide +kernel) rfl) rfl (G_ldIn (n := 1) (nx := 12) (dc27 bs_x9_all (by decide +kernel)) rfl rfl (G_sw (dflt := 56) (lo := 0) (hi := 2) (offs := #[28, 37, 46]) (len := 28) (td := 68) (by decide +kernel) (by decide +kernel)
  (List.forall_mem_cons.mpr ⟨⟨28, 40, by decide +kernel, by decide +kernel, by decide +kernel, by decide +kernel,
  (G_ldAn (n := 0) (nx := 41) (dc42 bs_x9_all (by decide +kernel)) rfl rfl (G_getRc (nx := 44) fl_9_60 rf_9_9 (dc180 (x := 0) (y := 60) bs_x9_all (by decide +kernel) rfl) rfl (G_ic (n := 3) (nx := 45) (dc6 bs_x9_all (by decide +kernel)) icv_3 rfl (G_callV (b0 := 0) (nx := 48) (T := TX7) (ci := 7) (g_Fn_of rfl h_x7_together) (cw_9_135) ⟨wd3_48, wd3_49⟩ ⟨rfl, rfl⟩ ⟨by decide, by show 4 ≤ 21; decide⟩ (Nat.zero_le _) (rec_x7_together _) (dc182 (x := 0) (y := 135) bs_x9_all (by decide +kernel) rfl) rfl (G_iret rfl (dc172 bs_x9_all (by decide +kernel)))))))⟩, List.forall_mem_cons.mpr ⟨⟨37, 49, by decide +kernel, by decide +kernel, by decide +kernel, by decide +kernel,
  (G_ldAn (n := 0) (nx := 50) (dc42 bs_x9_all (by decide +kernel)) rfl rfl (G_getRc (nx := 53) fl_9_60 rf_9_9 (dc180 (x := 0) (y := 60) bs_x9_all (by decide +kernel) rfl) rfl (G_ic (n := 4) (nx := 54) (dc7 bs_x9_all (by decide +kernel)) icv_4 rfl (G_callV (b0 := 0) (nx := 57) (T := TX7) (ci := 7) (g_Fn_of rfl h_x7_together) (cw_9_135) ⟨wd3_48, wd3_49⟩ ⟨rfl, rfl⟩ ⟨by decide, by show 4 ≤ 21; decide⟩ (Nat.zero_le _) (rec_x7_together _) (dc182 (x := 0) (y := 135) bs_x9_all (by decide +kernel) rfl) rfl (G_iret rfl (dc172 bs_x9_all (by decide +kernel)))))))⟩, List.forall_mem_cons.mpr ⟨⟨46, 58, by decide +kernel, by decide +kernel, by decide +kernel, by decide +kernel,
  (G_ldAn (n := 0) (nx := 59) (dc42 bs_x9_all (by decide +kernel)) rfl rfl (G_getRc (nx := 62) fl_9_60 rf_9_9 (dc180 (x := 0) (y := 60) bs_x9_all (by decide +kernel) rfl) rfl (G_bi (n := 6) (nx := 64) (dc16 (x := 6) bs_x9_all (by decide +kernel) (by decide +kernel)) biv_6 rfl (G_callV (b0 := 0) (nx := 67) (T := TX7) (ci := 7) (g_Fn_of rfl h_x7_together) (cw_9_135) ⟨wd3_48, wd3_49⟩ ⟨rfl, rfl⟩ ⟨by decide, by show 4 ≤ 21; decide⟩ (Nat.zero_le _) (rec_x7_together _) (dc182 (x := 0) (y := 135) bs_x9_all (by decide +kernel) rfl) rfl (G_iret rfl (dc172 bs_x9_all (by decide +kernel)))))))⟩, fun _ h => absurd h List.not_mem_nil⟩⟩⟩)
  (g_swall _ (by decide +kernel) rfl)
  (G_ic (n := -1) (nx := 69) (dc2 bs_x9_all (by decide +kernel)) icv_m1 rfl (G_iret rfl (dc172 bs_x9_all (by decide +kernel)))))))))))
    exact ht _ _ σ q ((e_x9_all x7_readSetting x7_together σ l1).symm.trans e1)
  exact g_meth (σ' := q.1) (v := some (.inl q.2)) (by decide) rfl hw hwf hok (Nat.le_of_ble_eq_true rfl) hGo (fun σ2 v2 h => retI_inv h) (by exact e2)

set_option maxRecDepth 100000 in
set_option maxHeartbeats 4000000 in
theorem h_x9_terms : g_Ft M_x9_terms yX9_terms 3 (FW_x9_terms x9_terms) := by
  intro l w hw σ as hlen hwf hok ρ k r e
  unfold FW_x9_terms at e
  obtain ⟨hh0, e⟩ := p_C_inv e
  obtain ⟨l1, hh1, e⟩ := p_I_inv e
  obtain ⟨l2, hh2, e⟩ := p_I_inv e
  have e := p_E_inv e
  obtain ⟨q, e1, e2⟩ := Option.bind_eq_some_iff.mp e
  have has : as = [.inr (.inr (some (9, 0))), .inl l1, .inl l2] := g_as3 hlen hh0 hh1 hh2
  subst has
  have hGo : g_Go M_x9_terms retI (me M_x9_terms) 0 (g_loc [.inr (.inr (some (9, 0))), .inl l1, .inl l2] (ml M_x9_terms)) [] σ q := by
    have ht : g_Gd M_x9_terms retI (me M_x9_terms) 0 (t_x9_terms x9_refuse x9_answer) := (G_ldIn (n := 1) (nx := 1) (dc27 bs_x9_terms (by decide +kernel)) rfl rfl (G_iflt (off := 26) (tg := 27) (nf := 4) (dc155 (x := 0) (y := 26) bs_x9_terms (by decide +kernel) (by decide +kernel)) (by decide +kernel) rfl
  (G_ldAn (n := 0) (nx := 28) (dc42 bs_x9_terms (by decide +kernel)) rfl rfl (G_ic (n := -1) (nx := 29) (dc2 bs_x9_terms (by decide +kernel)) icv_m1 rfl (G_callV (b0 := 0) (nx := 32) (T := TX9) (ci := 9) (g_Fn_of rfl h_x9_refuse) (cw_9_84) ⟨wd2_186, sel_GalleyRoom_refuse__I_I⟩ ⟨rfl, rfl⟩ ⟨by decide, by show 3 ≤ 21; decide⟩ (Nat.zero_le _) (rec_x9_refuse _) (dc182 (x := 0) (y := 84) bs_x9_terms (by decide +kernel) rfl) rfl (G_iret rfl (dc172 bs_x9_terms (by decide +kernel))))))
  (G_ldIn (n := 1) (nx := 5) (dc27 bs_x9_terms (by decide +kernel)) rfl rfl (G_ic (n := 3) (nx := 6) (dc6 bs_x9_terms (by decide +kernel)) icv_3 rfl (G_icmpgt (off := 21) (tg := 27) (nf := 9) (dc163 (x := 0) (y := 21) bs_x9_terms (by decide +kernel) (by decide +kernel)) (by decide +kernel) rfl
    (G_ldAn (n := 0) (nx := 28) (dc42 bs_x9_terms (by decide +kernel)) rfl rfl (G_ic (n := -1) (nx := 29) (dc2 bs_x9_terms (by decide +kernel)) icv_m1 rfl (G_callV (b0 := 0) (nx := 32) (T := TX9) (ci := 9) (g_Fn_of rfl h_x9_refuse) (cw_9_84) ⟨wd2_186, sel_GalleyRoom_refuse__I_I⟩ ⟨rfl, rfl⟩ ⟨by decide, by show 3 ≤ 21; decide⟩ (Nat.zero_le _) (rec_x9_refuse _) (dc182 (x := 0) (y := 84) bs_x9_terms (by decide +kernel) rfl) rfl (G_iret rfl (dc172 bs_x9_terms (by decide +kernel))))))
    (G_ldIn (n := 2) (nx := 10) (dc28 bs_x9_terms (by decide +kernel)) rfl rfl (G_gets (nx := 13) (nm := "LEAST_TERM") (Or.inl ⟨rfl, rfl⟩) rfl (Or.inl wd3_56) (dc178 (x := 0) (y := 138) bs_x9_terms (by decide +kernel) rfl) rfl (G_ldIn (n := 1) (nx := 14) (dc27 bs_x9_terms (by decide +kernel)) rfl rfl (G_iald (nx := 15) ak_76 (dc46 bs_x9_terms (by decide +kernel)) rfl (G_icmplt (off := 12) (tg := 27) (nf := 18) (dc161 (x := 0) (y := 12) bs_x9_terms (by decide +kernel) (by decide +kernel)) (by decide +kernel) rfl
      (G_ldAn (n := 0) (nx := 28) (dc42 bs_x9_terms (by decide +kernel)) rfl rfl (G_ic (n := -1) (nx := 29) (dc2 bs_x9_terms (by decide +kernel)) icv_m1 rfl (G_callV (b0 := 0) (nx := 32) (T := TX9) (ci := 9) (g_Fn_of rfl h_x9_refuse) (cw_9_84) ⟨wd2_186, sel_GalleyRoom_refuse__I_I⟩ ⟨rfl, rfl⟩ ⟨by decide, by show 3 ≤ 21; decide⟩ (Nat.zero_le _) (rec_x9_refuse _) (dc182 (x := 0) (y := 84) bs_x9_terms (by decide +kernel) rfl) rfl (G_iret rfl (dc172 bs_x9_terms (by decide +kernel))))))
      (G_ldIn (n := 2) (nx := 19) (dc28 bs_x9_terms (by decide +kernel)) rfl rfl (G_gets (nx := 22) (nm := "MOST_TERM") (Or.inr (Or.inl ⟨rfl, rfl⟩)) rfl (Or.inl wd3_58) (dc178 (x := 0) (y := 141) bs_x9_terms (by decide +kernel) rfl) rfl (G_ldIn (n := 1) (nx := 23) (dc27 bs_x9_terms (by decide +kernel)) rfl rfl (G_iald (nx := 24) ak_77 (dc46 bs_x9_terms (by decide +kernel)) rfl (G_icmple (off := 9) (tg := 33) (nf := 27) (dc164 (x := 0) (y := 9) bs_x9_terms (by decide +kernel) (by decide +kernel)) (by decide +kernel) rfl
        (G_ldAn (n := 0) (nx := 28) (dc42 bs_x9_terms (by decide +kernel)) rfl rfl (G_ic (n := -1) (nx := 29) (dc2 bs_x9_terms (by decide +kernel)) icv_m1 rfl (G_callV (b0 := 0) (nx := 32) (T := TX9) (ci := 9) (g_Fn_of rfl h_x9_refuse) (cw_9_84) ⟨wd2_186, sel_GalleyRoom_refuse__I_I⟩ ⟨rfl, rfl⟩ ⟨by decide, by show 3 ≤ 21; decide⟩ (Nat.zero_le _) (rec_x9_refuse _) (dc182 (x := 0) (y := 84) bs_x9_terms (by decide +kernel) rfl) rfl (G_iret rfl (dc172 bs_x9_terms (by decide +kernel))))))
        (G_ldAn (n := 0) (nx := 34) (dc42 bs_x9_terms (by decide +kernel)) rfl rfl (G_getRc (nx := 37) fl_9_20 rf_9_1 (dc180 (x := 0) (y := 20) bs_x9_terms (by decide +kernel) rfl) rfl (G_getRv (nx := 40) fl_9_144 rf_1_3 (dc180 (x := 0) (y := 144) bs_x9_terms (by decide +kernel) rfl) rfl (G_ldIn (n := 1) (nx := 41) (dc27 bs_x9_terms (by decide +kernel)) rfl rfl (G_iald (nx := 42) ak_15 (dc46 bs_x9_terms (by decide +kernel)) rfl (G_stIn (n := 3) (nx := 43) (by show 3 < 4; decide) (dc62 bs_x9_terms (by decide +kernel)) rfl rfl (G_ldAn (n := 0) (nx := 44) (dc42 bs_x9_terms (by decide +kernel)) rfl rfl (G_getRc (nx := 47) fl_9_20 rf_9_1 (dc180 (x := 0) (y := 20) bs_x9_terms (by decide +kernel) rfl) rfl (G_getRv (nx := 50) fl_9_144 rf_1_3 (dc180 (x := 0) (y := 144) bs_x9_terms (by decide +kernel) rfl) rfl (G_ldIn (n := 1) (nx := 51) (dc27 bs_x9_terms (by decide +kernel)) rfl rfl (G_ldIn (n := 2) (nx := 52) (dc28 bs_x9_terms (by decide +kernel)) rfl rfl (G_iast (nx := 53) ak_15 (by decide) (dc79 bs_x9_terms (by decide +kernel)) rfl (G_ldAn (n := 0) (nx := 54) (dc42 bs_x9_terms (by decide +kernel)) rfl rfl (G_getRc (nx := 57) fl_9_55 rf_9_8 (dc180 (x := 0) (y := 55) bs_x9_terms (by decide +kernel) rfl) rfl (G_ic (n := 0) (nx := 58) (dc3 bs_x9_terms (by decide +kernel)) icv_0 rfl (G_putI (nx := 61) fp_9_95 rfl (dc181 (x := 0) (y := 95) bs_x9_terms (by decide +kernel) rfl) rfl (G_ldAn (n := 0) (nx := 62) (dc42 bs_x9_terms (by decide +kernel)) rfl rfl (G_ldIn (n := 3) (nx := 63) (dc29 bs_x9_terms (by decide +kernel)) rfl rfl (G_callV (b0 := 0) (nx := 66) (T := TX9) (ci := 9) (g_Fn_of rfl h_x9_answer) (cw_9_100) ⟨wd2_194, sel_GalleyRoom_answer__I_I⟩ ⟨rfl, rfl⟩ ⟨by decide, by show 2 ≤ 21; decide⟩ (Nat.zero_le _) (rec_x9_answer _) (dc182 (x := 0) (y := 100) bs_x9_terms (by decide +kernel) rfl) rfl (G_iret rfl (dc172 bs_x9_terms (by decide +kernel)))))))))))))))))))))))))))))))))))))
    exact ht _ _ σ q ((e_x9_terms x9_refuse x9_answer σ l1 l2).symm.trans e1)
  exact g_meth (σ' := q.1) (v := some (.inl q.2)) (by decide) rfl hw hwf hok (Nat.le_of_ble_eq_true rfl) hGo (fun σ2 v2 h => retI_inv h) (by exact e2)

set_option maxRecDepth 100000 in
set_option maxHeartbeats 4000000 in
theorem B_x9_putFour_b3 : ∀ (n : Nat) (s : Sg) (l1 : Int32) (l2 : Int32) (r : Sg), x9_putFour_b3 n s l1 l2 = some r → g_Go M_x9_putFour retV 0 3 [some (.inr (.inr (some (9, 0)))), some (.inl l1), some (.inl l2)] [] s r := by
  intro n
  induction n with
  | zero => intro s l1 l2 r h; cases h
  | succ n hK3 =>
    intro s l1 l2 r h
    have ht : g_Gd M_x9_putFour retV 0 3 (t_x9_putFour_b3 (x9_putFour_b3 n)) := (G_ldIn (n := 2) (nx := 4) (dc28 bs_x9_putFour (by decide +kernel)) rfl rfl (G_iflt (off := 42) (tg := 46) (nf := 7) (dc155 (x := 0) (y := 42) bs_x9_putFour (by decide +kernel) (by decide +kernel)) (by decide +kernel) rfl
    (G_vret rfl (dc177 bs_x9_putFour (by decide +kernel)))
    (G_ldAn (n := 0) (nx := 8) (dc42 bs_x9_putFour (by decide +kernel)) rfl rfl (G_getI (nx := 11) fl_9_147 (Or.inl rfl) (dc180 (x := 0) (y := 147) bs_x9_putFour (by decide +kernel) rfl) rfl (G_si (n := 400) (nx := 14) (dc17 (x := 1) (y := 144) bs_x9_putFour (by decide +kernel) (by decide +kernel)) siv_400 rfl (G_icmpge (off := 32) (tg := 46) (nf := 17) (dc162 (x := 0) (y := 32) bs_x9_putFour (by decide +kernel) (by decide +kernel)) (by decide +kernel) rfl
      (G_ldAn (n := 0) (nx := 18) (dc42 bs_x9_putFour (by decide +kernel)) rfl rfl (G_getRc (nx := 21) fl_9_40 rf_9_6 (dc180 (x := 0) (y := 40) bs_x9_putFour (by decide +kernel) rfl) rfl (G_ldAn (n := 0) (nx := 22) (dc42 bs_x9_putFour (by decide +kernel)) rfl rfl (G_getI (nx := 25) fl_9_147 (Or.inl rfl) (dc180 (x := 0) (y := 147) bs_x9_putFour (by decide +kernel) rfl) rfl (G_ldIn (n := 1) (nx := 26) (dc27 bs_x9_putFour (by decide +kernel)) rfl rfl (G_ldIn (n := 2) (nx := 27) (dc28 bs_x9_putFour (by decide +kernel)) rfl rfl (G_ishr (nx := 28) (dc122 bs_x9_putFour (by decide +kernel)) rfl (G_i2b (nx := 29) (dc145 bs_x9_putFour (by decide +kernel)) rfl (G_bast (nx := 30) ak_39 (by decide) (dc84 bs_x9_putFour (by decide +kernel)) rfl (G_ldAn (n := 0) (nx := 31) (dc42 bs_x9_putFour (by decide +kernel)) rfl rfl (G_dup (nx := 32) (dc89 bs_x9_putFour (by decide +kernel)) rfl (G_getI (nx := 35) fl_9_147 (Or.inl rfl) (dc180 (x := 0) (y := 147) bs_x9_putFour (by decide +kernel) rfl) rfl (G_ic (n := 1) (nx := 36) (dc4 bs_x9_putFour (by decide +kernel)) icv_1 rfl (G_iadd (nx := 37) (dc96 bs_x9_putFour (by decide +kernel)) rfl (G_putI (nx := 40) fp_9_147 rfl (dc181 (x := 0) (y := 147) bs_x9_putFour (by decide +kernel) rfl) rfl (G_inc (n := -8) (nx := 43) (by show 2 < 3; decide) (dc132 (x := 2) (y := 248) bs_x9_putFour (by decide +kernel) (by decide +kernel)) icv_m8 rfl (G_goto (off := -40) (nx := 3) (dc167 (x := 255) (y := 216) bs_x9_putFour (by decide +kernel) (by decide +kernel)) (by decide +kernel) (G_lbl (Gp_C <| Gp_I fun a1 => Gp_I fun a2 => Gp_E fun s r h => hK3 s a1 a2 r h)))))))))))))))))))
      (G_vret rfl (dc177 bs_x9_putFour (by decide +kernel)))))))))
    exact ht _ _ s r ((e_x9_putFour_b3 (x9_putFour_b3 n) s l1 l2).symm.trans h)

set_option maxRecDepth 100000 in
set_option maxHeartbeats 4000000 in
theorem h_x9_putFour : g_Ft M_x9_putFour yX9_putFour 2 (FW_x9_putFour x9_putFour) := by
  intro l w hw σ as hlen hwf hok ρ k r e
  unfold FW_x9_putFour at e
  obtain ⟨hh0, e⟩ := p_C_inv e
  obtain ⟨l1, hh1, e⟩ := p_I_inv e
  have e := p_E_inv e
  obtain ⟨q, e1, e2⟩ := Option.bind_eq_some_iff.mp e
  have has : as = [.inr (.inr (some (9, 0))), .inl l1] := g_as2 hlen hh0 hh1
  subst has
  have hGo : g_Go M_x9_putFour retV (me M_x9_putFour) 0 (g_loc [.inr (.inr (some (9, 0))), .inl l1] (ml M_x9_putFour)) [] σ q := by
    have ht : g_Gd M_x9_putFour retV (me M_x9_putFour) 0 (t_x9_putFour (x9_putFour_b3 FU)) := (G_bi (n := 24) (nx := 2) (dc16 (x := 24) bs_x9_putFour (by decide +kernel) (by decide +kernel)) biv_24 rfl (G_stIn (n := 2) (nx := 3) (by show 2 < 3; decide) (dc61 bs_x9_putFour (by decide +kernel)) rfl rfl (G_lbl (Gp_C <| Gp_I fun a1 => Gp_I fun a2 => Gp_E fun s r h => B_x9_putFour_b3 FU s a1 a2 r h))))
    exact ht _ _ σ q ((e_x9_putFour (x9_putFour_b3 FU) σ l1).symm.trans e1)
  exact g_meth (σ' := q) (v := none) (by decide) rfl hw hwf hok (Nat.le_of_ble_eq_true rfl) hGo (fun σ2 v2 h => retV_inv h) (by exact e2)

set_option maxRecDepth 100000 in
set_option maxHeartbeats 4000000 in
theorem h_x9_feed : g_Ft M_x9_feed yX9_feed 6 (FW_x9_feed x9_feed) := by
  intro l w hw σ as hlen hwf hok ρ k r e
  unfold FW_x9_feed at e
  obtain ⟨hh0, e⟩ := p_C_inv e
  obtain ⟨l1, hh1, e⟩ := p_I_inv e
  obtain ⟨l2, hh2, e⟩ := p_I_inv e
  obtain ⟨l3, hh3, e⟩ := p_I_inv e
  obtain ⟨l4, hh4, e⟩ := p_I_inv e
  obtain ⟨l5, hh5, e⟩ := p_I_inv e
  have e := p_E_inv e
  obtain ⟨q, e1, e2⟩ := Option.bind_eq_some_iff.mp e
  have has : as = [.inr (.inr (some (9, 0))), .inl l1, .inl l2, .inl l3, .inl l4, .inl l5] := g_as6 hlen hh0 hh1 hh2 hh3 hh4 hh5
  subst has
  have hGo : g_Go M_x9_feed retI (me M_x9_feed) 0 (g_loc [.inr (.inr (some (9, 0))), .inl l1, .inl l2, .inl l3, .inl l4, .inl l5] (ml M_x9_feed)) [] σ q := by
    have ht : g_Gd M_x9_feed retI (me M_x9_feed) 0 (t_x9_feed x9_putFour) := (G_ldAn (n := 0) (nx := 1) (dc42 bs_x9_feed (by decide +kernel)) rfl rfl (G_getI (nx := 4) fl_9_147 (Or.inl rfl) (dc180 (x := 0) (y := 147) bs_x9_feed (by decide +kernel) rfl) rfl (G_bi (n := 20) (nx := 6) (dc16 (x := 20) bs_x9_feed (by decide +kernel) (by decide +kernel)) biv_20 rfl (G_iadd (nx := 7) (dc96 bs_x9_feed (by decide +kernel)) rfl (G_si (n := 400) (nx := 10) (dc17 (x := 1) (y := 144) bs_x9_feed (by decide +kernel) (by decide +kernel)) siv_400 rfl (G_icmple (off := 5) (tg := 15) (nf := 13) (dc164 (x := 0) (y := 5) bs_x9_feed (by decide +kernel) (by decide +kernel)) (by decide +kernel) rfl
  (G_ic (n := -1) (nx := 14) (dc2 bs_x9_feed (by decide +kernel)) icv_m1 rfl (G_iret rfl (dc172 bs_x9_feed (by decide +kernel))))
  (G_ldAn (n := 0) (nx := 16) (dc42 bs_x9_feed (by decide +kernel)) rfl rfl (G_ldIn (n := 1) (nx := 17) (dc27 bs_x9_feed (by decide +kernel)) rfl rfl (G_callV (b0 := 0) (nx := 20) (T := TX9) (ci := 9) (g_Fn_of rfl h_x9_putFour) (cw_9_150) ⟨wd3_66, sel_GalleyRoom_putFour__I_V⟩ ⟨rfl, rfl⟩ ⟨by decide, by show 3 ≤ 21; decide⟩ (Nat.zero_le _) (rec_x9_putFour _) (dc182 (x := 0) (y := 150) bs_x9_feed (by decide +kernel) rfl) rfl (G_ldAn (n := 0) (nx := 21) (dc42 bs_x9_feed (by decide +kernel)) rfl rfl (G_ldIn (n := 2) (nx := 22) (dc28 bs_x9_feed (by decide +kernel)) rfl rfl (G_callV (b0 := 0) (nx := 25) (T := TX9) (ci := 9) (g_Fn_of rfl h_x9_putFour) (cw_9_150) ⟨wd3_66, sel_GalleyRoom_putFour__I_V⟩ ⟨rfl, rfl⟩ ⟨by decide, by show 3 ≤ 21; decide⟩ (Nat.zero_le _) (rec_x9_putFour _) (dc182 (x := 0) (y := 150) bs_x9_feed (by decide +kernel) rfl) rfl (G_ldAn (n := 0) (nx := 26) (dc42 bs_x9_feed (by decide +kernel)) rfl rfl (G_ldIn (n := 3) (nx := 27) (dc29 bs_x9_feed (by decide +kernel)) rfl rfl (G_callV (b0 := 0) (nx := 30) (T := TX9) (ci := 9) (g_Fn_of rfl h_x9_putFour) (cw_9_150) ⟨wd3_66, sel_GalleyRoom_putFour__I_V⟩ ⟨rfl, rfl⟩ ⟨by decide, by show 3 ≤ 21; decide⟩ (Nat.zero_le _) (rec_x9_putFour _) (dc182 (x := 0) (y := 150) bs_x9_feed (by decide +kernel) rfl) rfl (G_ldAn (n := 0) (nx := 31) (dc42 bs_x9_feed (by decide +kernel)) rfl rfl (G_ldI (nx := 33) (dc21 (x := 4) bs_x9_feed (by decide +kernel)) rfl (G_callV (b0 := 0) (nx := 36) (T := TX9) (ci := 9) (g_Fn_of rfl h_x9_putFour) (cw_9_150) ⟨wd3_66, sel_GalleyRoom_putFour__I_V⟩ ⟨rfl, rfl⟩ ⟨by decide, by show 3 ≤ 21; decide⟩ (Nat.zero_le _) (rec_x9_putFour _) (dc182 (x := 0) (y := 150) bs_x9_feed (by decide +kernel) rfl) rfl (G_ldAn (n := 0) (nx := 37) (dc42 bs_x9_feed (by decide +kernel)) rfl rfl (G_ldI (nx := 39) (dc21 (x := 5) bs_x9_feed (by decide +kernel)) rfl (G_callV (b0 := 0) (nx := 42) (T := TX9) (ci := 9) (g_Fn_of rfl h_x9_putFour) (cw_9_150) ⟨wd3_66, sel_GalleyRoom_putFour__I_V⟩ ⟨rfl, rfl⟩ ⟨by decide, by show 3 ≤ 21; decide⟩ (Nat.zero_le _) (rec_x9_putFour _) (dc182 (x := 0) (y := 150) bs_x9_feed (by decide +kernel) rfl) rfl (G_ldAn (n := 0) (nx := 43) (dc42 bs_x9_feed (by decide +kernel)) rfl rfl (G_getI (nx := 46) fl_9_147 (Or.inl rfl) (dc180 (x := 0) (y := 147) bs_x9_feed (by decide +kernel) rfl) rfl (G_iret rfl (dc172 bs_x9_feed (by decide +kernel))))))))))))))))))))))))))
    exact ht _ _ σ q ((e_x9_feed x9_putFour σ l1 l2 l3 l4 l5).symm.trans e1)
  exact g_meth (σ' := q.1) (v := some (.inl q.2)) (by decide) rfl hw hwf hok (Nat.le_of_ble_eq_true rfl) hGo (fun σ2 v2 h => retI_inv h) (by exact e2)

set_option maxRecDepth 100000 in
set_option maxHeartbeats 4000000 in
theorem h_x9_end : g_Ft M_x9_end yX9_end 2 (FW_x9_end x9_end) := by
  intro l w hw σ as hlen hwf hok ρ k r e
  unfold FW_x9_end at e
  obtain ⟨hh0, e⟩ := p_C_inv e
  obtain ⟨l1, hh1, e⟩ := p_I_inv e
  have e := p_E_inv e
  obtain ⟨q, e1, e2⟩ := Option.bind_eq_some_iff.mp e
  have has : as = [.inr (.inr (some (9, 0))), .inl l1] := g_as2 hlen hh0 hh1
  subst has
  have hGo : g_Go M_x9_end retI (me M_x9_end) 0 (g_loc [.inr (.inr (some (9, 0))), .inl l1] (ml M_x9_end)) [] σ q := by
    have ht : g_Gd M_x9_end retI (me M_x9_end) 0 (t_x9_end) := (G_ldIn (n := 1) (nx := 1) (dc27 bs_x9_end (by decide +kernel)) rfl rfl (G_iflt (off := 11) (tg := 12) (nf := 4) (dc155 (x := 0) (y := 11) bs_x9_end (by decide +kernel) (by decide +kernel)) (by decide +kernel) rfl
  (G_ic (n := -1) (nx := 13) (dc2 bs_x9_end (by decide +kernel)) icv_m1 rfl (G_iret rfl (dc172 bs_x9_end (by decide +kernel))))
  (G_ldIn (n := 1) (nx := 5) (dc27 bs_x9_end (by decide +kernel)) rfl rfl (G_ldAn (n := 0) (nx := 6) (dc42 bs_x9_end (by decide +kernel)) rfl rfl (G_getI (nx := 9) fl_9_147 (Or.inl rfl) (dc180 (x := 0) (y := 147) bs_x9_end (by decide +kernel) rfl) rfl (G_icmple (off := 5) (tg := 14) (nf := 12) (dc164 (x := 0) (y := 5) bs_x9_end (by decide +kernel) (by decide +kernel)) (by decide +kernel) rfl
    (G_ic (n := -1) (nx := 13) (dc2 bs_x9_end (by decide +kernel)) icv_m1 rfl (G_iret rfl (dc172 bs_x9_end (by decide +kernel))))
    (G_ldAn (n := 0) (nx := 15) (dc42 bs_x9_end (by decide +kernel)) rfl rfl (G_ldIn (n := 1) (nx := 16) (dc27 bs_x9_end (by decide +kernel)) rfl rfl (G_putI (nx := 19) fp_9_147 rfl (dc181 (x := 0) (y := 147) bs_x9_end (by decide +kernel) rfl) rfl (G_ldIn (n := 1) (nx := 20) (dc27 bs_x9_end (by decide +kernel)) rfl rfl (G_iret rfl (dc172 bs_x9_end (by decide +kernel)))))))))))))
    exact ht _ _ σ q ((e_x9_end  σ l1).symm.trans e1)
  exact g_meth (σ' := q.1) (v := some (.inl q.2)) (by decide) rfl hw hwf hok (Nat.le_of_ble_eq_true rfl) hGo (fun σ2 v2 h => retI_inv h) (by exact e2)

set_option maxRecDepth 100000 in
set_option maxHeartbeats 4000000 in
theorem h_x9_takeWordAt : g_Ft M_x9_takeWordAt yX9_takeWordAt 2 (FW_x9_takeWordAt x9_takeWordAt) := by
  intro l w hw σ as hlen hwf hok ρ k r e
  unfold FW_x9_takeWordAt at e
  obtain ⟨hh0, e⟩ := p_C_inv e
  obtain ⟨l1, hh1, e⟩ := p_I_inv e
  have e := p_E_inv e
  obtain ⟨q, e1, e2⟩ := Option.bind_eq_some_iff.mp e
  have has : as = [.inr (.inr (some (9, 0))), .inl l1] := g_as2 hlen hh0 hh1
  subst has
  have hGo : g_Go M_x9_takeWordAt retI (me M_x9_takeWordAt) 0 (g_loc [.inr (.inr (some (9, 0))), .inl l1] (ml M_x9_takeWordAt)) [] σ q := by
    have ht : g_Gd M_x9_takeWordAt retI (me M_x9_takeWordAt) 0 (t_x9_takeWordAt x9_canBeWord x1_addWord) := (G_ldIn (n := 1) (nx := 1) (dc27 bs_x9_takeWordAt (by decide +kernel)) rfl rfl (G_iflt (off := 34) (tg := 35) (nf := 4) (dc155 (x := 0) (y := 34) bs_x9_takeWordAt (by decide +kernel) (by decide +kernel)) (by decide +kernel) rfl
  (G_ic (n := 0) (nx := 36) (dc3 bs_x9_takeWordAt (by decide +kernel)) icv_0 rfl (G_zret rfl (dc172 bs_x9_takeWordAt (by decide +kernel))))
  (G_ldIn (n := 1) (nx := 5) (dc27 bs_x9_takeWordAt (by decide +kernel)) rfl rfl (G_ic (n := 3) (nx := 6) (dc6 bs_x9_takeWordAt (by decide +kernel)) icv_3 rfl (G_iadd (nx := 7) (dc96 bs_x9_takeWordAt (by decide +kernel)) rfl (G_ldAn (n := 0) (nx := 8) (dc42 bs_x9_takeWordAt (by decide +kernel)) rfl rfl (G_getI (nx := 11) fl_9_147 (Or.inl rfl) (dc180 (x := 0) (y := 147) bs_x9_takeWordAt (by decide +kernel) rfl) rfl (G_icmpgt (off := 24) (tg := 35) (nf := 14) (dc163 (x := 0) (y := 24) bs_x9_takeWordAt (by decide +kernel) (by decide +kernel)) (by decide +kernel) rfl
    (G_ic (n := 0) (nx := 36) (dc3 bs_x9_takeWordAt (by decide +kernel)) icv_0 rfl (G_zret rfl (dc172 bs_x9_takeWordAt (by decide +kernel))))
    (G_ldIn (n := 1) (nx := 15) (dc27 bs_x9_takeWordAt (by decide +kernel)) rfl rfl (G_ic (n := 3) (nx := 16) (dc6 bs_x9_takeWordAt (by decide +kernel)) icv_3 rfl (G_iadd (nx := 17) (dc96 bs_x9_takeWordAt (by decide +kernel)) rfl (G_si (n := 400) (nx := 20) (dc17 (x := 1) (y := 144) bs_x9_takeWordAt (by decide +kernel) (by decide +kernel)) siv_400 rfl (G_icmpgt (off := 15) (tg := 35) (nf := 23) (dc163 (x := 0) (y := 15) bs_x9_takeWordAt (by decide +kernel) (by decide +kernel)) (by decide +kernel) rfl
      (G_ic (n := 0) (nx := 36) (dc3 bs_x9_takeWordAt (by decide +kernel)) icv_0 rfl (G_zret rfl (dc172 bs_x9_takeWordAt (by decide +kernel))))
      (G_ldAn (n := 0) (nx := 24) (dc42 bs_x9_takeWordAt (by decide +kernel)) rfl rfl (G_getRc (nx := 27) fl_9_20 rf_9_1 (dc180 (x := 0) (y := 20) bs_x9_takeWordAt (by decide +kernel) rfl) rfl (G_getI (nx := 30) fl_9_88 (Or.inl rfl) (dc180 (x := 0) (y := 88) bs_x9_takeWordAt (by decide +kernel) rfl) rfl (G_bi (n := 12) (nx := 32) (dc16 (x := 12) bs_x9_takeWordAt (by decide +kernel) (by decide +kernel)) biv_12 rfl (G_icmplt (off := 5) (tg := 37) (nf := 35) (dc161 (x := 0) (y := 5) bs_x9_takeWordAt (by decide +kernel) (by decide +kernel)) (by decide +kernel) rfl
        (G_ldAn (n := 0) (nx := 38) (dc42 bs_x9_takeWordAt (by decide +kernel)) rfl rfl (G_getRc (nx := 41) fl_9_40 rf_9_6 (dc180 (x := 0) (y := 40) bs_x9_takeWordAt (by decide +kernel) rfl) rfl (G_ldIn (n := 1) (nx := 42) (dc27 bs_x9_takeWordAt (by decide +kernel)) rfl rfl (G_bald (nx := 43) ak_39 (dc51 bs_x9_takeWordAt (by decide +kernel)) rfl (G_si (n := 255) (nx := 46) (dc17 (x := 0) (y := 255) bs_x9_takeWordAt (by decide +kernel) (by decide +kernel)) siv_255 rfl (G_iand (nx := 47) (dc126 bs_x9_takeWordAt (by decide +kernel)) rfl (G_stIn (n := 2) (nx := 48) (by show 2 < 5; decide) (dc61 bs_x9_takeWordAt (by decide +kernel)) rfl rfl (G_ldAn (n := 0) (nx := 49) (dc42 bs_x9_takeWordAt (by decide +kernel)) rfl rfl (G_getRc (nx := 52) fl_9_40 rf_9_6 (dc180 (x := 0) (y := 40) bs_x9_takeWordAt (by decide +kernel) rfl) rfl (G_ldIn (n := 1) (nx := 53) (dc27 bs_x9_takeWordAt (by decide +kernel)) rfl rfl (G_ic (n := 1) (nx := 54) (dc4 bs_x9_takeWordAt (by decide +kernel)) icv_1 rfl (G_iadd (nx := 55) (dc96 bs_x9_takeWordAt (by decide +kernel)) rfl (G_bald (nx := 56) ak_39 (dc51 bs_x9_takeWordAt (by decide +kernel)) rfl (G_si (n := 255) (nx := 59) (dc17 (x := 0) (y := 255) bs_x9_takeWordAt (by decide +kernel) (by decide +kernel)) siv_255 rfl (G_iand (nx := 60) (dc126 bs_x9_takeWordAt (by decide +kernel)) rfl (G_stIn (n := 3) (nx := 61) (by show 3 < 5; decide) (dc62 bs_x9_takeWordAt (by decide +kernel)) rfl rfl (G_ldAn (n := 0) (nx := 62) (dc42 bs_x9_takeWordAt (by decide +kernel)) rfl rfl (G_getRc (nx := 65) fl_9_40 rf_9_6 (dc180 (x := 0) (y := 40) bs_x9_takeWordAt (by decide +kernel) rfl) rfl (G_ldIn (n := 1) (nx := 66) (dc27 bs_x9_takeWordAt (by decide +kernel)) rfl rfl (G_ic (n := 2) (nx := 67) (dc5 bs_x9_takeWordAt (by decide +kernel)) icv_2 rfl (G_iadd (nx := 68) (dc96 bs_x9_takeWordAt (by decide +kernel)) rfl (G_bald (nx := 69) ak_39 (dc51 bs_x9_takeWordAt (by decide +kernel)) rfl (G_si (n := 255) (nx := 72) (dc17 (x := 0) (y := 255) bs_x9_takeWordAt (by decide +kernel) (by decide +kernel)) siv_255 rfl (G_iand (nx := 73) (dc126 bs_x9_takeWordAt (by decide +kernel)) rfl (G_stI (nx := 75) (by show 4 < 5; decide) (dc54 (x := 4) bs_x9_takeWordAt (by decide +kernel)) rfl (G_ldIn (n := 2) (nx := 76) (dc28 bs_x9_takeWordAt (by decide +kernel)) rfl rfl (G_ldIn (n := 3) (nx := 77) (dc29 bs_x9_takeWordAt (by decide +kernel)) rfl rfl (G_ldI (nx := 79) (dc21 (x := 4) bs_x9_takeWordAt (by decide +kernel)) rfl (G_callS (b0 := 0) (nx := 82) (g_Fn_of rfl h_x9_canBeWord) (cw_9_80) wd2_182 rfl ⟨by decide, by show 3 ≤ 21; decide⟩ (Nat.zero_le _) (dc184 (x := 0) (y := 80) bs_x9_takeWordAt (by decide +kernel) rfl) rfl (G_ifne (off := 5) (tg := 87) (nf := 85) (dc154 (x := 0) (y := 5) bs_x9_takeWordAt (by decide +kernel) (by decide +kernel)) (by decide +kernel) rfl
          (G_ic (n := 0) (nx := 86) (dc3 bs_x9_takeWordAt (by decide +kernel)) icv_0 rfl (G_zret rfl (dc172 bs_x9_takeWordAt (by decide +kernel))))
          (G_ldAn (n := 0) (nx := 88) (dc42 bs_x9_takeWordAt (by decide +kernel)) rfl rfl (G_getRc (nx := 91) fl_9_20 rf_9_1 (dc180 (x := 0) (y := 20) bs_x9_takeWordAt (by decide +kernel) rfl) rfl (G_ldIn (n := 2) (nx := 92) (dc28 bs_x9_takeWordAt (by decide +kernel)) rfl rfl (G_ldIn (n := 3) (nx := 93) (dc29 bs_x9_takeWordAt (by decide +kernel)) rfl rfl (G_ldI (nx := 95) (dc21 (x := 4) bs_x9_takeWordAt (by decide +kernel)) rfl (G_callV (b0 := 0) (nx := 98) (T := TX1) (ci := 1) (g_Fn_of rfl h_x1_addWord) (cw_9_91) ⟨wd2_189, wd2_190⟩ ⟨rfl, rfl⟩ ⟨by decide, by show 4 ≤ 21; decide⟩ (Nat.zero_le _) (rec_x1_addWord _) (dc182 (x := 0) (y := 91) bs_x9_takeWordAt (by decide +kernel) rfl) rfl (G_ic (n := 1) (nx := 99) (dc4 bs_x9_takeWordAt (by decide +kernel)) icv_1 rfl (G_zret rfl (dc172 bs_x9_takeWordAt (by decide +kernel))))))))))))))))))))))))))))))))))))))))
        (G_ic (n := 0) (nx := 36) (dc3 bs_x9_takeWordAt (by decide +kernel)) icv_0 rfl (G_zret rfl (dc172 bs_x9_takeWordAt (by decide +kernel))))))))))))))))))))))
    exact ht _ _ σ q ((e_x9_takeWordAt x9_canBeWord x1_addWord σ l1).symm.trans e1)
  exact g_meth (σ' := q.1) (v := some (.inl q.2)) (by decide) rfl hw hwf hok (Nat.le_of_ble_eq_true rfl) hGo (fun σ2 v2 h => retI_inv h) (by exact e2)

set_option maxRecDepth 100000 in
set_option maxHeartbeats 4000000 in
theorem B_x9_row_b23 : ∀ (n : Nat) (s : Sg) (l1 : Int32) (l2 : Int32) (r : (Sg × Int32)), x9_row_b23 n s l1 l2 = some r → g_Go M_x9_row retI 0 23 [some (.inr (.inr (some (9, 0)))), some (.inl l1), some (.inl l2)] [] s r := by
  intro n
  induction n with
  | zero => intro s l1 l2 r h; cases h
  | succ n hK23 =>
    intro s l1 l2 r h
    have ht : g_Gd M_x9_row retI 0 23 (t_x9_row_b23 (x9_row_b23 n) x9_takeWordAt x9_answer) := (G_ldIn (n := 2) (nx := 24) (dc28 bs_x9_row (by decide +kernel)) rfl rfl (G_ldAn (n := 0) (nx := 25) (dc42 bs_x9_row (by decide +kernel)) rfl rfl (G_getI (nx := 28) fl_9_147 (Or.inl rfl) (dc180 (x := 0) (y := 147) bs_x9_row (by decide +kernel) rfl) rfl (G_icmpge (off := 33) (tg := 61) (nf := 31) (dc162 (x := 0) (y := 33) bs_x9_row (by decide +kernel) (by decide +kernel)) (by decide +kernel) rfl
    (G_ldAn (n := 0) (nx := 32) (dc42 bs_x9_row (by decide +kernel)) rfl rfl (G_ldIn (n := 2) (nx := 33) (dc28 bs_x9_row (by decide +kernel)) rfl rfl (G_callV (b0 := 0) (nx := 36) (T := TX9) (ci := 9) (g_Fn_of rfl h_x9_takeWordAt) (cw_9_157) ⟨wd3_78, sel_GalleyRoom_takeWordAt__I_Z⟩ ⟨rfl, rfl⟩ ⟨by decide, by show 5 ≤ 21; decide⟩ (Nat.zero_le _) (rec_x9_takeWordAt _) (dc182 (x := 0) (y := 157) bs_x9_row (by decide +kernel) rfl) rfl (G_ifeq (off := 9) (tg := 45) (nf := 39) (dc153 (x := 0) (y := 9) bs_x9_row (by decide +kernel) (by decide +kernel)) (by decide +kernel) rfl
      (G_ldAn (n := 0) (nx := 46) (dc42 bs_x9_row (by decide +kernel)) rfl rfl (G_dup (nx := 47) (dc89 bs_x9_row (by decide +kernel)) rfl (G_getI (nx := 50) fl_9_154 (Or.inl rfl) (dc180 (x := 0) (y := 154) bs_x9_row (by decide +kernel) rfl) rfl (G_ic (n := 1) (nx := 51) (dc4 bs_x9_row (by decide +kernel)) icv_1 rfl (G_iadd (nx := 52) (dc96 bs_x9_row (by decide +kernel)) rfl (G_putI (nx := 55) fp_9_154 rfl (dc181 (x := 0) (y := 154) bs_x9_row (by decide +kernel) rfl) rfl (G_inc (n := 3) (nx := 58) (by show 2 < 3; decide) (dc132 (x := 2) (y := 3) bs_x9_row (by decide +kernel) (by decide +kernel)) icv_3 rfl (G_goto (off := -35) (nx := 23) (dc167 (x := 255) (y := 221) bs_x9_row (by decide +kernel) (by decide +kernel)) (by decide +kernel) (G_lbl (Gp_C <| Gp_I fun a1 => Gp_I fun a2 => Gp_E fun s r h => hK23 s a1 a2 r h))))))))))
      (G_inc (n := 1) (nx := 42) (by show 1 < 3; decide) (dc132 (x := 1) (y := 1) bs_x9_row (by decide +kernel) (by decide +kernel)) icv_1 rfl (G_goto (off := 13) (nx := 55) (dc167 (x := 0) (y := 13) bs_x9_row (by decide +kernel) (by decide +kernel)) (by decide +kernel) (G_inc (n := 3) (nx := 58) (by show 2 < 3; decide) (dc132 (x := 2) (y := 3) bs_x9_row (by decide +kernel) (by decide +kernel)) icv_3 rfl (G_goto (off := -35) (nx := 23) (dc167 (x := 255) (y := 221) bs_x9_row (by decide +kernel) (by decide +kernel)) (by decide +kernel) (G_lbl (Gp_C <| Gp_I fun a1 => Gp_I fun a2 => Gp_E fun s r h => hK23 s a1 a2 r h))))))))))
    (G_ldAn (n := 0) (nx := 62) (dc42 bs_x9_row (by decide +kernel)) rfl rfl (G_ic (n := 0) (nx := 63) (dc3 bs_x9_row (by decide +kernel)) icv_0 rfl (G_putI (nx := 66) fp_9_147 rfl (dc181 (x := 0) (y := 147) bs_x9_row (by decide +kernel) rfl) rfl (G_ldAn (n := 0) (nx := 67) (dc42 bs_x9_row (by decide +kernel)) rfl rfl (G_getRc (nx := 70) fl_9_55 rf_9_8 (dc180 (x := 0) (y := 55) bs_x9_row (by decide +kernel) rfl) rfl (G_ic (n := 0) (nx := 71) (dc3 bs_x9_row (by decide +kernel)) icv_0 rfl (G_putI (nx := 74) fp_9_95 rfl (dc181 (x := 0) (y := 95) bs_x9_row (by decide +kernel) rfl) rfl (G_ldAn (n := 0) (nx := 75) (dc42 bs_x9_row (by decide +kernel)) rfl rfl (G_ldIn (n := 1) (nx := 76) (dc27 bs_x9_row (by decide +kernel)) rfl rfl (G_callV (b0 := 0) (nx := 79) (T := TX9) (ci := 9) (g_Fn_of rfl h_x9_answer) (cw_9_100) ⟨wd2_194, sel_GalleyRoom_answer__I_I⟩ ⟨rfl, rfl⟩ ⟨by decide, by show 2 ≤ 21; decide⟩ (Nat.zero_le _) (rec_x9_answer _) (dc182 (x := 0) (y := 100) bs_x9_row (by decide +kernel) rfl) rfl (G_iret rfl (dc172 bs_x9_row (by decide +kernel)))))))))))))))))
    exact ht _ _ s r ((e_x9_row_b23 (x9_row_b23 n) x9_takeWordAt x9_answer s l1 l2).symm.trans h)

set_option maxRecDepth 100000 in
set_option maxHeartbeats 4000000 in
theorem h_x9_row : g_Ft M_x9_row yX9_row 1 (FW_x9_row x9_row) := by
  intro l w hw σ as hlen hwf hok ρ k r e
  unfold FW_x9_row at e
  obtain ⟨hh0, e⟩ := p_C_inv e
  have e := p_E_inv e
  obtain ⟨q, e1, e2⟩ := Option.bind_eq_some_iff.mp e
  have has : as = [.inr (.inr (some (9, 0)))] := g_as1 hlen hh0
  subst has
  have hGo : g_Go M_x9_row retI (me M_x9_row) 0 (g_loc [.inr (.inr (some (9, 0)))] (ml M_x9_row)) [] σ q := by
    have ht : g_Gd M_x9_row retI (me M_x9_row) 0 (t_x9_row (x9_row_b23 FU) x9_refuse) := (G_ldAn (n := 0) (nx := 1) (dc42 bs_x9_row (by decide +kernel)) rfl rfl (G_getI (nx := 4) fl_9_147 (Or.inl rfl) (dc180 (x := 0) (y := 147) bs_x9_row (by decide +kernel) rfl) rfl (G_ifne (off := 10) (tg := 14) (nf := 7) (dc154 (x := 0) (y := 10) bs_x9_row (by decide +kernel) (by decide +kernel)) (by decide +kernel) rfl
  (G_ldAn (n := 0) (nx := 8) (dc42 bs_x9_row (by decide +kernel)) rfl rfl (G_bi (n := -6) (nx := 10) (dc16 (x := 250) bs_x9_row (by decide +kernel) (by decide +kernel)) biv_m6 rfl (G_callV (b0 := 0) (nx := 13) (T := TX9) (ci := 9) (g_Fn_of rfl h_x9_refuse) (cw_9_84) ⟨wd2_186, sel_GalleyRoom_refuse__I_I⟩ ⟨rfl, rfl⟩ ⟨by decide, by show 3 ≤ 21; decide⟩ (Nat.zero_le _) (rec_x9_refuse _) (dc182 (x := 0) (y := 84) bs_x9_row (by decide +kernel) rfl) rfl (G_iret rfl (dc172 bs_x9_row (by decide +kernel))))))
  (G_ic (n := 0) (nx := 15) (dc3 bs_x9_row (by decide +kernel)) icv_0 rfl (G_stIn (n := 1) (nx := 16) (by show 1 < 3; decide) (dc60 bs_x9_row (by decide +kernel)) rfl rfl (G_ldAn (n := 0) (nx := 17) (dc42 bs_x9_row (by decide +kernel)) rfl rfl (G_ic (n := 0) (nx := 18) (dc3 bs_x9_row (by decide +kernel)) icv_0 rfl (G_putI (nx := 21) fp_9_154 rfl (dc181 (x := 0) (y := 154) bs_x9_row (by decide +kernel) rfl) rfl (G_ic (n := 0) (nx := 22) (dc3 bs_x9_row (by decide +kernel)) icv_0 rfl (G_stIn (n := 2) (nx := 23) (by show 2 < 3; decide) (dc61 bs_x9_row (by decide +kernel)) rfl rfl (G_lbl (Gp_C <| Gp_I fun a1 => Gp_I fun a2 => Gp_E fun s r h => B_x9_row_b23 FU s a1 a2 r h))))))))))))
    exact ht _ _ σ q ((e_x9_row (x9_row_b23 FU) x9_refuse σ ).symm.trans e1)
  exact g_meth (σ' := q.1) (v := some (.inl q.2)) (by decide) rfl hw hwf hok (Nat.le_of_ble_eq_true rfl) hGo (fun σ2 v2 h => retI_inv h) (by exact e2)

set_option maxRecDepth 100000 in
set_option maxHeartbeats 4000000 in
theorem h_x9_turned : g_Ft M_x9_turned yX9_turned 1 (FW_x9_turned x9_turned) := by
  intro l w hw σ as hlen hwf hok ρ k r e
  unfold FW_x9_turned at e
  obtain ⟨hh0, e⟩ := p_C_inv e
  have e := p_E_inv e
  obtain ⟨q, e1, e2⟩ := Option.bind_eq_some_iff.mp e
  have has : as = [.inr (.inr (some (9, 0)))] := g_as1 hlen hh0
  subst has
  have hGo : g_Go M_x9_turned retI (me M_x9_turned) 0 (g_loc [.inr (.inr (some (9, 0)))] (ml M_x9_turned)) [] σ q := by
    have ht : g_Gd M_x9_turned retI (me M_x9_turned) 0 (t_x9_turned) := (G_ldAn (n := 0) (nx := 1) (dc42 bs_x9_turned (by decide +kernel)) rfl rfl (G_getI (nx := 4) fl_9_154 (Or.inl rfl) (dc180 (x := 0) (y := 154) bs_x9_turned (by decide +kernel) rfl) rfl (G_iret rfl (dc172 bs_x9_turned (by decide +kernel)))))
    exact ht _ _ σ q ((e_x9_turned  σ ).symm.trans e1)
  exact g_meth (σ' := q.1) (v := some (.inl q.2)) (by decide) rfl hw hwf hok (Nat.le_of_ble_eq_true rfl) hGo (fun σ2 v2 h => retI_inv h) (by exact e2)

set_option maxRecDepth 100000 in
set_option maxHeartbeats 4000000 in
theorem h_x9_fault : g_Ft M_x9_fault yX9_fault 1 (FW_x9_fault x9_fault) := by
  intro l w hw σ as hlen hwf hok ρ k r e
  unfold FW_x9_fault at e
  obtain ⟨hh0, e⟩ := p_C_inv e
  have e := p_E_inv e
  obtain ⟨q, e1, e2⟩ := Option.bind_eq_some_iff.mp e
  have has : as = [.inr (.inr (some (9, 0)))] := g_as1 hlen hh0
  subst has
  have hGo : g_Go M_x9_fault retI (me M_x9_fault) 0 (g_loc [.inr (.inr (some (9, 0)))] (ml M_x9_fault)) [] σ q := by
    have ht : g_Gd M_x9_fault retI (me M_x9_fault) 0 (t_x9_fault) := (G_ldAn (n := 0) (nx := 1) (dc42 bs_x9_fault (by decide +kernel)) rfl rfl (G_getRc (nx := 4) fl_9_47 rf_9_7 (dc180 (x := 0) (y := 47) bs_x9_fault (by decide +kernel) rfl) rfl (G_getI (nx := 7) fl_9_167 (Or.inl rfl) (dc180 (x := 0) (y := 167) bs_x9_fault (by decide +kernel) rfl) rfl (G_iret rfl (dc172 bs_x9_fault (by decide +kernel))))))
    exact ht _ _ σ q ((e_x9_fault  σ ).symm.trans e1)
  exact g_meth (σ' := q.1) (v := some (.inl q.2)) (by decide) rfl hw hwf hok (Nat.le_of_ble_eq_true rfl) hGo (fun σ2 v2 h => retI_inv h) (by exact e2)

set_option maxRecDepth 100000 in
set_option maxHeartbeats 4000000 in
theorem h_x9_stopped : g_Ft M_x9_stopped yX9_stopped 1 (FW_x9_stopped x9_stopped) := by
  intro l w hw σ as hlen hwf hok ρ k r e
  unfold FW_x9_stopped at e
  obtain ⟨hh0, e⟩ := p_C_inv e
  have e := p_E_inv e
  obtain ⟨q, e1, e2⟩ := Option.bind_eq_some_iff.mp e
  have has : as = [.inr (.inr (some (9, 0)))] := g_as1 hlen hh0
  subst has
  have hGo : g_Go M_x9_stopped retI (me M_x9_stopped) 0 (g_loc [.inr (.inr (some (9, 0)))] (ml M_x9_stopped)) [] σ q := by
    have ht : g_Gd M_x9_stopped retI (me M_x9_stopped) 0 (t_x9_stopped) := (G_ldAn (n := 0) (nx := 1) (dc42 bs_x9_stopped (by decide +kernel)) rfl rfl (G_getI (nx := 4) fl_9_76 (Or.inl rfl) (dc180 (x := 0) (y := 76) bs_x9_stopped (by decide +kernel) rfl) rfl (G_iret rfl (dc172 bs_x9_stopped (by decide +kernel)))))
    exact ht _ _ σ q ((e_x9_stopped  σ ).symm.trans e1)
  exact g_meth (σ' := q.1) (v := some (.inl q.2)) (by decide) rfl hw hwf hok (Nat.le_of_ble_eq_true rfl) hGo (fun σ2 v2 h => retI_inv h) (by exact e2)

set_option maxRecDepth 100000 in
set_option maxHeartbeats 4000000 in
theorem h_x9_force : g_Ft M_x9_force yX9_force 2 (FW_x9_force x9_force) := by
  intro l w hw σ as hlen hwf hok ρ k r e
  unfold FW_x9_force at e
  obtain ⟨hh0, e⟩ := p_C_inv e
  obtain ⟨l1, hh1, e⟩ := p_I_inv e
  have e := p_E_inv e
  obtain ⟨q, e1, e2⟩ := Option.bind_eq_some_iff.mp e
  have has : as = [.inr (.inr (some (9, 0))), .inl l1] := g_as2 hlen hh0 hh1
  subst has
  have hGo : g_Go M_x9_force retI (me M_x9_force) 0 (g_loc [.inr (.inr (some (9, 0))), .inl l1] (ml M_x9_force)) [] σ q := by
    have ht : g_Gd M_x9_force retI (me M_x9_force) 0 (t_x9_force x1_canForce x9_refuse x9_answer) := (G_ldAn (n := 0) (nx := 1) (dc42 bs_x9_force (by decide +kernel)) rfl rfl (G_getRc (nx := 4) fl_9_20 rf_9_1 (dc180 (x := 0) (y := 20) bs_x9_force (by decide +kernel) rfl) rfl (G_ldIn (n := 1) (nx := 5) (dc27 bs_x9_force (by decide +kernel)) rfl rfl (G_callV (b0 := 0) (nx := 8) (T := TX1) (ci := 1) (g_Fn_of rfl h_x1_canForce) (cw_9_203) ⟨wd4_90, wd4_91⟩ ⟨rfl, rfl⟩ ⟨by decide, by show 2 ≤ 21; decide⟩ (Nat.zero_le _) (rec_x1_canForce _) (dc182 (x := 0) (y := 203) bs_x9_force (by decide +kernel) rfl) rfl (G_ifne (off := 10) (tg := 18) (nf := 11) (dc154 (x := 0) (y := 10) bs_x9_force (by decide +kernel) (by decide +kernel)) (by decide +kernel) rfl
  (G_ldAn (n := 0) (nx := 12) (dc42 bs_x9_force (by decide +kernel)) rfl rfl (G_bi (n := -2) (nx := 14) (dc16 (x := 254) bs_x9_force (by decide +kernel) (by decide +kernel)) biv_m2 rfl (G_callV (b0 := 0) (nx := 17) (T := TX9) (ci := 9) (g_Fn_of rfl h_x9_refuse) (cw_9_84) ⟨wd2_186, sel_GalleyRoom_refuse__I_I⟩ ⟨rfl, rfl⟩ ⟨by decide, by show 3 ≤ 21; decide⟩ (Nat.zero_le _) (rec_x9_refuse _) (dc182 (x := 0) (y := 84) bs_x9_force (by decide +kernel) rfl) rfl (G_iret rfl (dc172 bs_x9_force (by decide +kernel))))))
  (G_ldAn (n := 0) (nx := 19) (dc42 bs_x9_force (by decide +kernel)) rfl rfl (G_getRc (nx := 22) fl_9_20 rf_9_1 (dc180 (x := 0) (y := 20) bs_x9_force (by decide +kernel) rfl) rfl (G_getI (nx := 25) fl_9_206 (Or.inl rfl) (dc180 (x := 0) (y := 206) bs_x9_force (by decide +kernel) rfl) rfl (G_stIn (n := 2) (nx := 26) (by show 2 < 3; decide) (dc61 bs_x9_force (by decide +kernel)) rfl rfl (G_ldAn (n := 0) (nx := 27) (dc42 bs_x9_force (by decide +kernel)) rfl rfl (G_getRc (nx := 30) fl_9_20 rf_9_1 (dc180 (x := 0) (y := 20) bs_x9_force (by decide +kernel) rfl) rfl (G_ldIn (n := 1) (nx := 31) (dc27 bs_x9_force (by decide +kernel)) rfl rfl (G_putI (nx := 34) fp_9_206 rfl (dc181 (x := 0) (y := 206) bs_x9_force (by decide +kernel) rfl) rfl (G_ldAn (n := 0) (nx := 35) (dc42 bs_x9_force (by decide +kernel)) rfl rfl (G_ldIn (n := 2) (nx := 36) (dc28 bs_x9_force (by decide +kernel)) rfl rfl (G_callV (b0 := 0) (nx := 39) (T := TX9) (ci := 9) (g_Fn_of rfl h_x9_answer) (cw_9_100) ⟨wd2_194, sel_GalleyRoom_answer__I_I⟩ ⟨rfl, rfl⟩ ⟨by decide, by show 2 ≤ 21; decide⟩ (Nat.zero_le _) (rec_x9_answer _) (dc182 (x := 0) (y := 100) bs_x9_force (by decide +kernel) rfl) rfl (G_iret rfl (dc172 bs_x9_force (by decide +kernel)))))))))))))))))))
    exact ht _ _ σ q ((e_x9_force x1_canForce x9_refuse x9_answer σ l1).symm.trans e1)
  exact g_meth (σ' := q.1) (v := some (.inl q.2)) (by decide) rfl hw hwf hok (Nat.le_of_ble_eq_true rfl) hGo (fun σ2 v2 h => retI_inv h) (by exact e2)

set_option maxRecDepth 100000 in
set_option maxHeartbeats 4000000 in
theorem h_x9_stop : g_Ft M_x9_stop yX9_stop 2 (FW_x9_stop x9_stop) := by
  intro l w hw σ as hlen hwf hok ρ k r e
  unfold FW_x9_stop at e
  obtain ⟨hh0, e⟩ := p_C_inv e
  obtain ⟨l1, hh1, e⟩ := p_I_inv e
  have e := p_E_inv e
  obtain ⟨q, e1, e2⟩ := Option.bind_eq_some_iff.mp e
  have has : as = [.inr (.inr (some (9, 0))), .inl l1] := g_as2 hlen hh0 hh1
  subst has
  have hGo : g_Go M_x9_stop retI (me M_x9_stop) 0 (g_loc [.inr (.inr (some (9, 0))), .inl l1] (ml M_x9_stop)) [] σ q := by
    have ht : g_Gd M_x9_stop retI (me M_x9_stop) 0 (t_x9_stop x0_attempt x9_refuse x1_endsAfter x9_answer) := (G_ldAn (n := 0) (nx := 1) (dc42 bs_x9_stop (by decide +kernel)) rfl rfl (G_getRc (nx := 4) fl_9_10 rf_9_0 (dc180 (x := 0) (y := 10) bs_x9_stop (by decide +kernel) rfl) rfl (G_ic (n := 0) (nx := 5) (dc3 bs_x9_stop (by decide +kernel)) icv_0 rfl (G_ldIn (n := 1) (nx := 6) (dc27 bs_x9_stop (by decide +kernel)) rfl rfl (G_ic (n := 0) (nx := 7) (dc3 bs_x9_stop (by decide +kernel)) icv_0 rfl (G_callV (b0 := 0) (nx := 10) (T := TX0) (ci := 0) (g_Fn_of rfl h_x0_attempt) (cw_9_209) ⟨wd4_53, wd4_54⟩ ⟨rfl, rfl⟩ ⟨by decide, by show 5 ≤ 21; decide⟩ (Nat.zero_le _) (rec_x0_attempt _) (dc182 (x := 0) (y := 209) bs_x9_stop (by decide +kernel) rfl) rfl (G_stIn (n := 2) (nx := 11) (by show 2 < 3; decide) (dc61 bs_x9_stop (by decide +kernel)) rfl rfl (G_ldIn (n := 2) (nx := 12) (dc28 bs_x9_stop (by decide +kernel)) rfl rfl (G_ifeq (off := 11) (tg := 23) (nf := 15) (dc153 (x := 0) (y := 11) bs_x9_stop (by decide +kernel) (by decide +kernel)) (by decide +kernel) rfl
  (G_ldAn (n := 0) (nx := 24) (dc42 bs_x9_stop (by decide +kernel)) rfl rfl (G_ldAn (n := 0) (nx := 25) (dc42 bs_x9_stop (by decide +kernel)) rfl rfl (G_getRc (nx := 28) fl_9_20 rf_9_1 (dc180 (x := 0) (y := 20) bs_x9_stop (by decide +kernel) rfl) rfl (G_ldIn (n := 1) (nx := 29) (dc27 bs_x9_stop (by decide +kernel)) rfl rfl (G_callV (b0 := 0) (nx := 32) (T := TX1) (ci := 1) (g_Fn_of rfl h_x1_endsAfter) (cw_9_116) ⟨wd2_205, wd2_206⟩ ⟨rfl, rfl⟩ ⟨by decide, by show 2 ≤ 21; decide⟩ (Nat.zero_le _) (rec_x1_endsAfter _) (dc182 (x := 0) (y := 116) bs_x9_stop (by decide +kernel) rfl) rfl (G_ifeq (off := 7) (tg := 39) (nf := 35) (dc153 (x := 0) (y := 7) bs_x9_stop (by decide +kernel) (by decide +kernel)) (by decide +kernel) rfl
    (G_ic (n := 0) (nx := 40) (dc3 bs_x9_stop (by decide +kernel)) icv_0 rfl (G_callV (b0 := 0) (nx := 43) (T := TX9) (ci := 9) (g_Fn_of rfl h_x9_answer) (cw_9_100) ⟨wd2_194, sel_GalleyRoom_answer__I_I⟩ ⟨rfl, rfl⟩ ⟨by decide, by show 2 ≤ 21; decide⟩ (Nat.zero_le _) (rec_x9_answer _) (dc182 (x := 0) (y := 100) bs_x9_stop (by decide +kernel) rfl) rfl (G_iret rfl (dc172 bs_x9_stop (by decide +kernel)))))
    (G_ic (n := 1) (nx := 36) (dc4 bs_x9_stop (by decide +kernel)) icv_1 rfl (G_goto (off := 4) (nx := 40) (dc167 (x := 0) (y := 4) bs_x9_stop (by decide +kernel) (by decide +kernel)) (by decide +kernel) (G_callV (b0 := 0) (nx := 43) (T := TX9) (ci := 9) (g_Fn_of rfl h_x9_answer) (cw_9_100) ⟨wd2_194, sel_GalleyRoom_answer__I_I⟩ ⟨rfl, rfl⟩ ⟨by decide, by show 2 ≤ 21; decide⟩ (Nat.zero_le _) (rec_x9_answer _) (dc182 (x := 0) (y := 100) bs_x9_stop (by decide +kernel) rfl) rfl (G_iret rfl (dc172 bs_x9_stop (by decide +kernel))))))))))))
  (G_ldAn (n := 0) (nx := 16) (dc42 bs_x9_stop (by decide +kernel)) rfl rfl (G_ldIn (n := 2) (nx := 17) (dc28 bs_x9_stop (by decide +kernel)) rfl rfl (G_callV (b0 := 0) (nx := 20) (T := TX9) (ci := 9) (g_Fn_of rfl h_x9_refuse) (cw_9_84) ⟨wd2_186, sel_GalleyRoom_refuse__I_I⟩ ⟨rfl, rfl⟩ ⟨by decide, by show 3 ≤ 21; decide⟩ (Nat.zero_le _) (rec_x9_refuse _) (dc182 (x := 0) (y := 84) bs_x9_stop (by decide +kernel) rfl) rfl (G_goto (off := 23) (nx := 43) (dc167 (x := 0) (y := 23) bs_x9_stop (by decide +kernel) (by decide +kernel)) (by decide +kernel) (G_iret rfl (dc172 bs_x9_stop (by decide +kernel))))))))))))))))
    exact ht _ _ σ q ((e_x9_stop x0_attempt x9_refuse x1_endsAfter x9_answer σ l1).symm.trans e1)
  exact g_meth (σ' := q.1) (v := some (.inl q.2)) (by decide) rfl hw hwf hok (Nat.le_of_ble_eq_true rfl) hGo (fun σ2 v2 h => retI_inv h) (by exact e2)

set_option maxRecDepth 100000 in
set_option maxHeartbeats 4000000 in
theorem h_x9_split : g_Ft M_x9_split yX9_split 2 (FW_x9_split x9_split) := by
  intro l w hw σ as hlen hwf hok ρ k r e
  unfold FW_x9_split at e
  obtain ⟨hh0, e⟩ := p_C_inv e
  obtain ⟨l1, hh1, e⟩ := p_I_inv e
  have e := p_E_inv e
  obtain ⟨q, e1, e2⟩ := Option.bind_eq_some_iff.mp e
  have has : as = [.inr (.inr (some (9, 0))), .inl l1] := g_as2 hlen hh0 hh1
  subst has
  have hGo : g_Go M_x9_split retI (me M_x9_split) 0 (g_loc [.inr (.inr (some (9, 0))), .inl l1] (ml M_x9_split)) [] σ q := by
    have ht : g_Gd M_x9_split retI (me M_x9_split) 0 (t_x9_split x0_attempt x9_refuse x1_isSplit x9_answer) := (G_ldAn (n := 0) (nx := 1) (dc42 bs_x9_split (by decide +kernel)) rfl rfl (G_getRc (nx := 4) fl_9_10 rf_9_0 (dc180 (x := 0) (y := 10) bs_x9_split (by decide +kernel) rfl) rfl (G_ic (n := 1) (nx := 5) (dc4 bs_x9_split (by decide +kernel)) icv_1 rfl (G_ldIn (n := 1) (nx := 6) (dc27 bs_x9_split (by decide +kernel)) rfl rfl (G_ic (n := 0) (nx := 7) (dc3 bs_x9_split (by decide +kernel)) icv_0 rfl (G_callV (b0 := 0) (nx := 10) (T := TX0) (ci := 0) (g_Fn_of rfl h_x0_attempt) (cw_9_209) ⟨wd4_53, wd4_54⟩ ⟨rfl, rfl⟩ ⟨by decide, by show 5 ≤ 21; decide⟩ (Nat.zero_le _) (rec_x0_attempt _) (dc182 (x := 0) (y := 209) bs_x9_split (by decide +kernel) rfl) rfl (G_stIn (n := 2) (nx := 11) (by show 2 < 3; decide) (dc61 bs_x9_split (by decide +kernel)) rfl rfl (G_ldIn (n := 2) (nx := 12) (dc28 bs_x9_split (by decide +kernel)) rfl rfl (G_ifeq (off := 11) (tg := 23) (nf := 15) (dc153 (x := 0) (y := 11) bs_x9_split (by decide +kernel) (by decide +kernel)) (by decide +kernel) rfl
  (G_ldAn (n := 0) (nx := 24) (dc42 bs_x9_split (by decide +kernel)) rfl rfl (G_ldAn (n := 0) (nx := 25) (dc42 bs_x9_split (by decide +kernel)) rfl rfl (G_getRc (nx := 28) fl_9_20 rf_9_1 (dc180 (x := 0) (y := 20) bs_x9_split (by decide +kernel) rfl) rfl (G_ldIn (n := 1) (nx := 29) (dc27 bs_x9_split (by decide +kernel)) rfl rfl (G_callV (b0 := 0) (nx := 32) (T := TX1) (ci := 1) (g_Fn_of rfl h_x1_isSplit) (cw_9_119) ⟨wd2_210, wd2_211⟩ ⟨rfl, rfl⟩ ⟨by decide, by show 2 ≤ 21; decide⟩ (Nat.zero_le _) (rec_x1_isSplit _) (dc182 (x := 0) (y := 119) bs_x9_split (by decide +kernel) rfl) rfl (G_ifeq (off := 7) (tg := 39) (nf := 35) (dc153 (x := 0) (y := 7) bs_x9_split (by decide +kernel) (by decide +kernel)) (by decide +kernel) rfl
    (G_ic (n := 0) (nx := 40) (dc3 bs_x9_split (by decide +kernel)) icv_0 rfl (G_callV (b0 := 0) (nx := 43) (T := TX9) (ci := 9) (g_Fn_of rfl h_x9_answer) (cw_9_100) ⟨wd2_194, sel_GalleyRoom_answer__I_I⟩ ⟨rfl, rfl⟩ ⟨by decide, by show 2 ≤ 21; decide⟩ (Nat.zero_le _) (rec_x9_answer _) (dc182 (x := 0) (y := 100) bs_x9_split (by decide +kernel) rfl) rfl (G_iret rfl (dc172 bs_x9_split (by decide +kernel)))))
    (G_ic (n := 1) (nx := 36) (dc4 bs_x9_split (by decide +kernel)) icv_1 rfl (G_goto (off := 4) (nx := 40) (dc167 (x := 0) (y := 4) bs_x9_split (by decide +kernel) (by decide +kernel)) (by decide +kernel) (G_callV (b0 := 0) (nx := 43) (T := TX9) (ci := 9) (g_Fn_of rfl h_x9_answer) (cw_9_100) ⟨wd2_194, sel_GalleyRoom_answer__I_I⟩ ⟨rfl, rfl⟩ ⟨by decide, by show 2 ≤ 21; decide⟩ (Nat.zero_le _) (rec_x9_answer _) (dc182 (x := 0) (y := 100) bs_x9_split (by decide +kernel) rfl) rfl (G_iret rfl (dc172 bs_x9_split (by decide +kernel))))))))))))
  (G_ldAn (n := 0) (nx := 16) (dc42 bs_x9_split (by decide +kernel)) rfl rfl (G_ldIn (n := 2) (nx := 17) (dc28 bs_x9_split (by decide +kernel)) rfl rfl (G_callV (b0 := 0) (nx := 20) (T := TX9) (ci := 9) (g_Fn_of rfl h_x9_refuse) (cw_9_84) ⟨wd2_186, sel_GalleyRoom_refuse__I_I⟩ ⟨rfl, rfl⟩ ⟨by decide, by show 3 ≤ 21; decide⟩ (Nat.zero_le _) (rec_x9_refuse _) (dc182 (x := 0) (y := 84) bs_x9_split (by decide +kernel) rfl) rfl (G_goto (off := 23) (nx := 43) (dc167 (x := 0) (y := 23) bs_x9_split (by decide +kernel) (by decide +kernel)) (by decide +kernel) (G_iret rfl (dc172 bs_x9_split (by decide +kernel))))))))))))))))
    exact ht _ _ σ q ((e_x9_split x0_attempt x9_refuse x1_isSplit x9_answer σ l1).symm.trans e1)
  exact g_meth (σ' := q.1) (v := some (.inl q.2)) (by decide) rfl hw hwf hok (Nat.le_of_ble_eq_true rfl) hGo (fun σ2 v2 h => retI_inv h) (by exact e2)

set_option maxRecDepth 100000 in
set_option maxHeartbeats 4000000 in
theorem h_x9_swell : g_Ft M_x9_swell yX9_swell 3 (FW_x9_swell x9_swell) := by
  intro l w hw σ as hlen hwf hok ρ k r e
  unfold FW_x9_swell at e
  obtain ⟨hh0, e⟩ := p_C_inv e
  obtain ⟨l1, hh1, e⟩ := p_I_inv e
  obtain ⟨l2, hh2, e⟩ := p_I_inv e
  have e := p_E_inv e
  obtain ⟨q, e1, e2⟩ := Option.bind_eq_some_iff.mp e
  have has : as = [.inr (.inr (some (9, 0))), .inl l1, .inl l2] := g_as3 hlen hh0 hh1 hh2
  subst has
  have hGo : g_Go M_x9_swell retI (me M_x9_swell) 0 (g_loc [.inr (.inr (some (9, 0))), .inl l1, .inl l2] (ml M_x9_swell)) [] σ q := by
    have ht : g_Gd M_x9_swell retI (me M_x9_swell) 0 (t_x9_swell x1_wideOf x0_attempt x9_refuse x9_answer) := (G_ldAn (n := 0) (nx := 1) (dc42 bs_x9_swell (by decide +kernel)) rfl rfl (G_getRc (nx := 4) fl_9_20 rf_9_1 (dc180 (x := 0) (y := 20) bs_x9_swell (by decide +kernel) rfl) rfl (G_ldIn (n := 1) (nx := 5) (dc27 bs_x9_swell (by decide +kernel)) rfl rfl (G_callV (b0 := 0) (nx := 8) (T := TX1) (ci := 1) (g_Fn_of rfl h_x1_wideOf) (cw_9_213) ⟨wd4_41, wd4_42⟩ ⟨rfl, rfl⟩ ⟨by decide, by show 2 ≤ 21; decide⟩ (Nat.zero_le _) (rec_x1_wideOf _) (dc182 (x := 0) (y := 213) bs_x9_swell (by decide +kernel) rfl) rfl (G_stIn (n := 3) (nx := 9) (by show 3 < 5; decide) (dc62 bs_x9_swell (by decide +kernel)) rfl rfl (G_ldAn (n := 0) (nx := 10) (dc42 bs_x9_swell (by decide +kernel)) rfl rfl (G_getRc (nx := 13) fl_9_10 rf_9_0 (dc180 (x := 0) (y := 10) bs_x9_swell (by decide +kernel) rfl) rfl (G_ic (n := 2) (nx := 14) (dc5 bs_x9_swell (by decide +kernel)) icv_2 rfl (G_ldIn (n := 1) (nx := 15) (dc27 bs_x9_swell (by decide +kernel)) rfl rfl (G_ldIn (n := 2) (nx := 16) (dc28 bs_x9_swell (by decide +kernel)) rfl rfl (G_callV (b0 := 0) (nx := 19) (T := TX0) (ci := 0) (g_Fn_of rfl h_x0_attempt) (cw_9_209) ⟨wd4_53, wd4_54⟩ ⟨rfl, rfl⟩ ⟨by decide, by show 5 ≤ 21; decide⟩ (Nat.zero_le _) (rec_x0_attempt _) (dc182 (x := 0) (y := 209) bs_x9_swell (by decide +kernel) rfl) rfl (G_stI (nx := 21) (by show 4 < 5; decide) (dc54 (x := 4) bs_x9_swell (by decide +kernel)) rfl (G_ldI (nx := 23) (dc21 (x := 4) bs_x9_swell (by decide +kernel)) rfl (G_ifeq (off := 12) (tg := 35) (nf := 26) (dc153 (x := 0) (y := 12) bs_x9_swell (by decide +kernel) (by decide +kernel)) (by decide +kernel) rfl
  (G_ldAn (n := 0) (nx := 36) (dc42 bs_x9_swell (by decide +kernel)) rfl rfl (G_ldIn (n := 3) (nx := 37) (dc29 bs_x9_swell (by decide +kernel)) rfl rfl (G_callV (b0 := 0) (nx := 40) (T := TX9) (ci := 9) (g_Fn_of rfl h_x9_answer) (cw_9_100) ⟨wd2_194, sel_GalleyRoom_answer__I_I⟩ ⟨rfl, rfl⟩ ⟨by decide, by show 2 ≤ 21; decide⟩ (Nat.zero_le _) (rec_x9_answer _) (dc182 (x := 0) (y := 100) bs_x9_swell (by decide +kernel) rfl) rfl (G_iret rfl (dc172 bs_x9_swell (by decide +kernel))))))
  (G_ldAn (n := 0) (nx := 27) (dc42 bs_x9_swell (by decide +kernel)) rfl rfl (G_ldI (nx := 29) (dc21 (x := 4) bs_x9_swell (by decide +kernel)) rfl (G_callV (b0 := 0) (nx := 32) (T := TX9) (ci := 9) (g_Fn_of rfl h_x9_refuse) (cw_9_84) ⟨wd2_186, sel_GalleyRoom_refuse__I_I⟩ ⟨rfl, rfl⟩ ⟨by decide, by show 3 ≤ 21; decide⟩ (Nat.zero_le _) (rec_x9_refuse _) (dc182 (x := 0) (y := 84) bs_x9_swell (by decide +kernel) rfl) rfl (G_goto (off := 8) (nx := 40) (dc167 (x := 0) (y := 8) bs_x9_swell (by decide +kernel) (by decide +kernel)) (by decide +kernel) (G_iret rfl (dc172 bs_x9_swell (by decide +kernel)))))))))))))))))))))
    exact ht _ _ σ q ((e_x9_swell x1_wideOf x0_attempt x9_refuse x9_answer σ l1 l2).symm.trans e1)
  exact g_meth (σ' := q.1) (v := some (.inl q.2)) (by decide) rfl hw hwf hok (Nat.le_of_ble_eq_true rfl) hGo (fun σ2 v2 h => retI_inv h) (by exact e2)

set_option maxRecDepth 100000 in
set_option maxHeartbeats 4000000 in
theorem h_x9_pass : g_Ft M_x9_pass yX9_pass 1 (FW_x9_pass x9_pass) := by
  intro l w hw σ as hlen hwf hok ρ k r e
  unfold FW_x9_pass at e
  obtain ⟨hh0, e⟩ := p_C_inv e
  have e := p_E_inv e
  obtain ⟨q, e1, e2⟩ := Option.bind_eq_some_iff.mp e
  have has : as = [.inr (.inr (some (9, 0)))] := g_as1 hlen hh0
  subst has
  have hGo : g_Go M_x9_pass retI (me M_x9_pass) 0 (g_loc [.inr (.inr (some (9, 0)))] (ml M_x9_pass)) [] σ q := by
    have ht : g_Gd M_x9_pass retI (me M_x9_pass) 0 (t_x9_pass x7_howManyFit x0_attempt x9_refuse x9_answer) := (G_ldAn (n := 0) (nx := 1) (dc42 bs_x9_pass (by decide +kernel)) rfl rfl (G_getRc (nx := 4) fl_9_60 rf_9_9 (dc180 (x := 0) (y := 60) bs_x9_pass (by decide +kernel) rfl) rfl (G_ldAn (n := 0) (nx := 5) (dc42 bs_x9_pass (by decide +kernel)) rfl rfl (G_getRc (nx := 8) fl_9_20 rf_9_1 (dc180 (x := 0) (y := 20) bs_x9_pass (by decide +kernel) rfl) rfl (G_callV (b0 := 0) (nx := 11) (T := TX7) (ci := 7) (g_Fn_of rfl h_x7_howManyFit) (cw_9_216) ⟨wd4_112, wd4_113⟩ ⟨rfl, rfl⟩ ⟨by decide, by show 2 ≤ 21; decide⟩ (Nat.zero_le _) (rec_x7_howManyFit _) (dc182 (x := 0) (y := 216) bs_x9_pass (by decide +kernel) rfl) rfl (G_stIn (n := 1) (nx := 12) (by show 1 < 3; decide) (dc60 bs_x9_pass (by decide +kernel)) rfl rfl (G_ldAn (n := 0) (nx := 13) (dc42 bs_x9_pass (by decide +kernel)) rfl rfl (G_getRc (nx := 16) fl_9_10 rf_9_0 (dc180 (x := 0) (y := 10) bs_x9_pass (by decide +kernel) rfl) rfl (G_ic (n := 3) (nx := 17) (dc6 bs_x9_pass (by decide +kernel)) icv_3 rfl (G_ic (n := 0) (nx := 18) (dc3 bs_x9_pass (by decide +kernel)) icv_0 rfl (G_ic (n := 0) (nx := 19) (dc3 bs_x9_pass (by decide +kernel)) icv_0 rfl (G_callV (b0 := 0) (nx := 22) (T := TX0) (ci := 0) (g_Fn_of rfl h_x0_attempt) (cw_9_209) ⟨wd4_53, wd4_54⟩ ⟨rfl, rfl⟩ ⟨by decide, by show 5 ≤ 21; decide⟩ (Nat.zero_le _) (rec_x0_attempt _) (dc182 (x := 0) (y := 209) bs_x9_pass (by decide +kernel) rfl) rfl (G_stIn (n := 2) (nx := 23) (by show 2 < 3; decide) (dc61 bs_x9_pass (by decide +kernel)) rfl rfl (G_ldIn (n := 2) (nx := 24) (dc28 bs_x9_pass (by decide +kernel)) rfl rfl (G_ifeq (off := 11) (tg := 35) (nf := 27) (dc153 (x := 0) (y := 11) bs_x9_pass (by decide +kernel) (by decide +kernel)) (by decide +kernel) rfl
  (G_ldAn (n := 0) (nx := 36) (dc42 bs_x9_pass (by decide +kernel)) rfl rfl (G_ldIn (n := 1) (nx := 37) (dc27 bs_x9_pass (by decide +kernel)) rfl rfl (G_callV (b0 := 0) (nx := 40) (T := TX9) (ci := 9) (g_Fn_of rfl h_x9_answer) (cw_9_100) ⟨wd2_194, sel_GalleyRoom_answer__I_I⟩ ⟨rfl, rfl⟩ ⟨by decide, by show 2 ≤ 21; decide⟩ (Nat.zero_le _) (rec_x9_answer _) (dc182 (x := 0) (y := 100) bs_x9_pass (by decide +kernel) rfl) rfl (G_iret rfl (dc172 bs_x9_pass (by decide +kernel))))))
  (G_ldAn (n := 0) (nx := 28) (dc42 bs_x9_pass (by decide +kernel)) rfl rfl (G_ldIn (n := 2) (nx := 29) (dc28 bs_x9_pass (by decide +kernel)) rfl rfl (G_callV (b0 := 0) (nx := 32) (T := TX9) (ci := 9) (g_Fn_of rfl h_x9_refuse) (cw_9_84) ⟨wd2_186, sel_GalleyRoom_refuse__I_I⟩ ⟨rfl, rfl⟩ ⟨by decide, by show 3 ≤ 21; decide⟩ (Nat.zero_le _) (rec_x9_refuse _) (dc182 (x := 0) (y := 84) bs_x9_pass (by decide +kernel) rfl) rfl (G_goto (off := 8) (nx := 40) (dc167 (x := 0) (y := 8) bs_x9_pass (by decide +kernel) (by decide +kernel)) (by decide +kernel) (G_iret rfl (dc172 bs_x9_pass (by decide +kernel))))))))))))))))))))))
    exact ht _ _ σ q ((e_x9_pass x7_howManyFit x0_attempt x9_refuse x9_answer σ ).symm.trans e1)
  exact g_meth (σ' := q.1) (v := some (.inl q.2)) (by decide) rfl hw hwf hok (Nat.le_of_ble_eq_true rfl) hGo (fun σ2 v2 h => retI_inv h) (by exact e2)

set_option maxRecDepth 100000 in
set_option maxHeartbeats 4000000 in
theorem h_x9_undo : g_Ft M_x9_undo yX9_undo 1 (FW_x9_undo x9_undo) := by
  intro l w hw σ as hlen hwf hok ρ k r e
  unfold FW_x9_undo at e
  obtain ⟨hh0, e⟩ := p_C_inv e
  have e := p_E_inv e
  obtain ⟨q, e1, e2⟩ := Option.bind_eq_some_iff.mp e
  have has : as = [.inr (.inr (some (9, 0)))] := g_as1 hlen hh0
  subst has
  have hGo : g_Go M_x9_undo retI (me M_x9_undo) 0 (g_loc [.inr (.inr (some (9, 0)))] (ml M_x9_undo)) [] σ q := by
    have ht : g_Gd M_x9_undo retI (me M_x9_undo) 0 (t_x9_undo x3_takeBack x9_refuse x9_answer) := (G_ldAn (n := 0) (nx := 1) (dc42 bs_x9_undo (by decide +kernel)) rfl rfl (G_getRc (nx := 4) fl_9_55 rf_9_8 (dc180 (x := 0) (y := 55) bs_x9_undo (by decide +kernel) rfl) rfl (G_ldAn (n := 0) (nx := 5) (dc42 bs_x9_undo (by decide +kernel)) rfl rfl (G_getRc (nx := 8) fl_9_20 rf_9_1 (dc180 (x := 0) (y := 20) bs_x9_undo (by decide +kernel) rfl) rfl (G_callV (b0 := 0) (nx := 11) (T := TX3) (ci := 3) (g_Fn_of rfl h_x3_takeBack) (cw_9_220) ⟨wd4_122, wd4_123⟩ ⟨rfl, rfl⟩ ⟨by decide, by show 2 ≤ 21; decide⟩ (Nat.zero_le _) (rec_x3_takeBack _) (dc182 (x := 0) (y := 220) bs_x9_undo (by decide +kernel) rfl) rfl (G_stIn (n := 1) (nx := 12) (by show 1 < 2; decide) (dc60 bs_x9_undo (by decide +kernel)) rfl rfl (G_ldIn (n := 1) (nx := 13) (dc27 bs_x9_undo (by decide +kernel)) rfl rfl (G_ic (n := -1) (nx := 14) (dc2 bs_x9_undo (by decide +kernel)) icv_m1 rfl (G_icmpne (off := 12) (tg := 26) (nf := 17) (dc160 (x := 0) (y := 12) bs_x9_undo (by decide +kernel) (by decide +kernel)) (by decide +kernel) rfl
  (G_ldAn (n := 0) (nx := 18) (dc42 bs_x9_undo (by decide +kernel)) rfl rfl (G_bi (n := -3) (nx := 20) (dc16 (x := 253) bs_x9_undo (by decide +kernel) (by decide +kernel)) biv_m3 rfl (G_callV (b0 := 0) (nx := 23) (T := TX9) (ci := 9) (g_Fn_of rfl h_x9_refuse) (cw_9_84) ⟨wd2_186, sel_GalleyRoom_refuse__I_I⟩ ⟨rfl, rfl⟩ ⟨by decide, by show 3 ≤ 21; decide⟩ (Nat.zero_le _) (rec_x9_refuse _) (dc182 (x := 0) (y := 84) bs_x9_undo (by decide +kernel) rfl) rfl (G_goto (off := 8) (nx := 31) (dc167 (x := 0) (y := 8) bs_x9_undo (by decide +kernel) (by decide +kernel)) (by decide +kernel) (G_iret rfl (dc172 bs_x9_undo (by decide +kernel)))))))
  (G_ldAn (n := 0) (nx := 27) (dc42 bs_x9_undo (by decide +kernel)) rfl rfl (G_ldIn (n := 1) (nx := 28) (dc27 bs_x9_undo (by decide +kernel)) rfl rfl (G_callV (b0 := 0) (nx := 31) (T := TX9) (ci := 9) (g_Fn_of rfl h_x9_answer) (cw_9_100) ⟨wd2_194, sel_GalleyRoom_answer__I_I⟩ ⟨rfl, rfl⟩ ⟨by decide, by show 2 ≤ 21; decide⟩ (Nat.zero_le _) (rec_x9_answer _) (dc182 (x := 0) (y := 100) bs_x9_undo (by decide +kernel) rfl) rfl (G_iret rfl (dc172 bs_x9_undo (by decide +kernel)))))))))))))))
    exact ht _ _ σ q ((e_x9_undo x3_takeBack x9_refuse x9_answer σ ).symm.trans e1)
  exact g_meth (σ' := q.1) (v := some (.inl q.2)) (by decide) rfl hw hwf hok (Nat.le_of_ble_eq_true rfl) hGo (fun σ2 v2 h => retI_inv h) (by exact e2)

set_option maxRecDepth 100000 in
set_option maxHeartbeats 4000000 in
theorem h_x9_seen : g_Ft M_x9_seen yX9_seen 3 (FW_x9_seen x9_seen) := by
  intro l w hw σ as hlen hwf hok ρ k r e
  unfold FW_x9_seen at e
  obtain ⟨hh0, e⟩ := p_C_inv e
  obtain ⟨l1, hh1, e⟩ := p_I_inv e
  obtain ⟨l2, hh2, e⟩ := p_I_inv e
  have e := p_E_inv e
  obtain ⟨q, e1, e2⟩ := Option.bind_eq_some_iff.mp e
  have has : as = [.inr (.inr (some (9, 0))), .inl l1, .inl l2] := g_as3 hlen hh0 hh1 hh2
  subst has
  have hGo : g_Go M_x9_seen retI (me M_x9_seen) 0 (g_loc [.inr (.inr (some (9, 0))), .inl l1, .inl l2] (ml M_x9_seen)) [] σ q := by
    have ht : g_Gd M_x9_seen retI (me M_x9_seen) 0 (t_x9_seen x9_refuse x9_answer) := (G_ldIn (n := 1) (nx := 1) (dc27 bs_x9_seen (by decide +kernel)) rfl rfl (G_iflt (off := 22) (tg := 23) (nf := 4) (dc155 (x := 0) (y := 22) bs_x9_seen (by decide +kernel) (by decide +kernel)) (by decide +kernel) rfl
  (G_ldAn (n := 0) (nx := 24) (dc42 bs_x9_seen (by decide +kernel)) rfl rfl (G_ic (n := -1) (nx := 25) (dc2 bs_x9_seen (by decide +kernel)) icv_m1 rfl (G_callV (b0 := 0) (nx := 28) (T := TX9) (ci := 9) (g_Fn_of rfl h_x9_refuse) (cw_9_84) ⟨wd2_186, sel_GalleyRoom_refuse__I_I⟩ ⟨rfl, rfl⟩ ⟨by decide, by show 3 ≤ 21; decide⟩ (Nat.zero_le _) (rec_x9_refuse _) (dc182 (x := 0) (y := 84) bs_x9_seen (by decide +kernel) rfl) rfl (G_iret rfl (dc172 bs_x9_seen (by decide +kernel))))))
  (G_ldIn (n := 1) (nx := 5) (dc27 bs_x9_seen (by decide +kernel)) rfl rfl (G_gets (nx := 8) (nm := "TOLD_BY_FACT") (Or.inr (Or.inr ⟨rfl, rfl⟩)) rfl (Or.inl wd5_15) (dc178 (x := 1) (y := 10) bs_x9_seen (by decide +kernel) rfl) rfl (G_alen (nx := 9) ak_78 (by decide) (dc190 bs_x9_seen (by decide +kernel)) rfl (G_icmpge (off := 14) (tg := 23) (nf := 12) (dc162 (x := 0) (y := 14) bs_x9_seen (by decide +kernel) (by decide +kernel)) (by decide +kernel) rfl
    (G_ldIn (n := 2) (nx := 13) (dc28 bs_x9_seen (by decide +kernel)) rfl rfl (G_iflt (off := 10) (tg := 23) (nf := 16) (dc155 (x := 0) (y := 10) bs_x9_seen (by decide +kernel) (by decide +kernel)) (by decide +kernel) rfl
      (G_ldAn (n := 0) (nx := 24) (dc42 bs_x9_seen (by decide +kernel)) rfl rfl (G_ic (n := -1) (nx := 25) (dc2 bs_x9_seen (by decide +kernel)) icv_m1 rfl (G_callV (b0 := 0) (nx := 28) (T := TX9) (ci := 9) (g_Fn_of rfl h_x9_refuse) (cw_9_84) ⟨wd2_186, sel_GalleyRoom_refuse__I_I⟩ ⟨rfl, rfl⟩ ⟨by decide, by show 3 ≤ 21; decide⟩ (Nat.zero_le _) (rec_x9_refuse _) (dc182 (x := 0) (y := 84) bs_x9_seen (by decide +kernel) rfl) rfl (G_iret rfl (dc172 bs_x9_seen (by decide +kernel))))))
      (G_ldIn (n := 2) (nx := 17) (dc28 bs_x9_seen (by decide +kernel)) rfl rfl (G_si (n := 999) (nx := 20) (dc17 (x := 3) (y := 231) bs_x9_seen (by decide +kernel) (by decide +kernel)) siv_999 rfl (G_icmple (off := 9) (tg := 29) (nf := 23) (dc164 (x := 0) (y := 9) bs_x9_seen (by decide +kernel) (by decide +kernel)) (by decide +kernel) rfl
        (G_ldAn (n := 0) (nx := 24) (dc42 bs_x9_seen (by decide +kernel)) rfl rfl (G_ic (n := -1) (nx := 25) (dc2 bs_x9_seen (by decide +kernel)) icv_m1 rfl (G_callV (b0 := 0) (nx := 28) (T := TX9) (ci := 9) (g_Fn_of rfl h_x9_refuse) (cw_9_84) ⟨wd2_186, sel_GalleyRoom_refuse__I_I⟩ ⟨rfl, rfl⟩ ⟨by decide, by show 3 ≤ 21; decide⟩ (Nat.zero_le _) (rec_x9_refuse _) (dc182 (x := 0) (y := 84) bs_x9_seen (by decide +kernel) rfl) rfl (G_iret rfl (dc172 bs_x9_seen (by decide +kernel))))))
        (G_ldAn (n := 0) (nx := 30) (dc42 bs_x9_seen (by decide +kernel)) rfl rfl (G_getRc (nx := 33) fl_9_20 rf_9_1 (dc180 (x := 0) (y := 20) bs_x9_seen (by decide +kernel) rfl) rfl (G_getI (nx := 36) fl_9_269 (Or.inl rfl) (dc180 (x := 1) (y := 13) bs_x9_seen (by decide +kernel) rfl) rfl (G_bi (n := 6) (nx := 38) (dc16 (x := 6) bs_x9_seen (by decide +kernel) (by decide +kernel)) biv_6 rfl (G_icmplt (off := 10) (tg := 48) (nf := 41) (dc161 (x := 0) (y := 10) bs_x9_seen (by decide +kernel) (by decide +kernel)) (by decide +kernel) rfl
          (G_ldAn (n := 0) (nx := 49) (dc42 bs_x9_seen (by decide +kernel)) rfl rfl (G_getRc (nx := 52) fl_9_20 rf_9_1 (dc180 (x := 0) (y := 20) bs_x9_seen (by decide +kernel) rfl) rfl (G_getRv (nx := 55) fl_9_272 rf_1_4 (dc180 (x := 1) (y := 16) bs_x9_seen (by decide +kernel) rfl) rfl (G_ldAn (n := 0) (nx := 56) (dc42 bs_x9_seen (by decide +kernel)) rfl rfl (G_getRc (nx := 59) fl_9_20 rf_9_1 (dc180 (x := 0) (y := 20) bs_x9_seen (by decide +kernel) rfl) rfl (G_getI (nx := 62) fl_9_269 (Or.inl rfl) (dc180 (x := 1) (y := 13) bs_x9_seen (by decide +kernel) rfl) rfl (G_ldIn (n := 1) (nx := 63) (dc27 bs_x9_seen (by decide +kernel)) rfl rfl (G_iast (nx := 64) ak_16 (by decide) (dc79 bs_x9_seen (by decide +kernel)) rfl (G_ldAn (n := 0) (nx := 65) (dc42 bs_x9_seen (by decide +kernel)) rfl rfl (G_getRc (nx := 68) fl_9_20 rf_9_1 (dc180 (x := 0) (y := 20) bs_x9_seen (by decide +kernel) rfl) rfl (G_getRv (nx := 71) fl_9_275 rf_1_5 (dc180 (x := 1) (y := 19) bs_x9_seen (by decide +kernel) rfl) rfl (G_ldAn (n := 0) (nx := 72) (dc42 bs_x9_seen (by decide +kernel)) rfl rfl (G_getRc (nx := 75) fl_9_20 rf_9_1 (dc180 (x := 0) (y := 20) bs_x9_seen (by decide +kernel) rfl) rfl (G_getI (nx := 78) fl_9_269 (Or.inl rfl) (dc180 (x := 1) (y := 13) bs_x9_seen (by decide +kernel) rfl) rfl (G_ldIn (n := 2) (nx := 79) (dc28 bs_x9_seen (by decide +kernel)) rfl rfl (G_iast (nx := 80) ak_17 (by decide) (dc79 bs_x9_seen (by decide +kernel)) rfl (G_ldAn (n := 0) (nx := 81) (dc42 bs_x9_seen (by decide +kernel)) rfl rfl (G_getRc (nx := 84) fl_9_20 rf_9_1 (dc180 (x := 0) (y := 20) bs_x9_seen (by decide +kernel) rfl) rfl (G_dup (nx := 85) (dc89 bs_x9_seen (by decide +kernel)) rfl (G_getI (nx := 88) fl_9_269 (Or.inl rfl) (dc180 (x := 1) (y := 13) bs_x9_seen (by decide +kernel) rfl) rfl (G_ic (n := 1) (nx := 89) (dc4 bs_x9_seen (by decide +kernel)) icv_1 rfl (G_iadd (nx := 90) (dc96 bs_x9_seen (by decide +kernel)) rfl (G_putI (nx := 93) fp_9_269 rfl (dc181 (x := 1) (y := 13) bs_x9_seen (by decide +kernel) rfl) rfl (G_ldAn (n := 0) (nx := 94) (dc42 bs_x9_seen (by decide +kernel)) rfl rfl (G_ldAn (n := 0) (nx := 95) (dc42 bs_x9_seen (by decide +kernel)) rfl rfl (G_getRc (nx := 98) fl_9_20 rf_9_1 (dc180 (x := 0) (y := 20) bs_x9_seen (by decide +kernel) rfl) rfl (G_getI (nx := 101) fl_9_269 (Or.inl rfl) (dc180 (x := 1) (y := 13) bs_x9_seen (by decide +kernel) rfl) rfl (G_callV (b0 := 0) (nx := 104) (T := TX9) (ci := 9) (g_Fn_of rfl h_x9_answer) (cw_9_100) ⟨wd2_194, sel_GalleyRoom_answer__I_I⟩ ⟨rfl, rfl⟩ ⟨by decide, by show 2 ≤ 21; decide⟩ (Nat.zero_le _) (rec_x9_answer _) (dc182 (x := 0) (y := 100) bs_x9_seen (by decide +kernel) rfl) rfl (G_iret rfl (dc172 bs_x9_seen (by decide +kernel)))))))))))))))))))))))))))))))
          (G_ldAn (n := 0) (nx := 42) (dc42 bs_x9_seen (by decide +kernel)) rfl rfl (G_bi (n := -5) (nx := 44) (dc16 (x := 251) bs_x9_seen (by decide +kernel) (by decide +kernel)) biv_m5 rfl (G_callV (b0 := 0) (nx := 47) (T := TX9) (ci := 9) (g_Fn_of rfl h_x9_refuse) (cw_9_84) ⟨wd2_186, sel_GalleyRoom_refuse__I_I⟩ ⟨rfl, rfl⟩ ⟨by decide, by show 3 ≤ 21; decide⟩ (Nat.zero_le _) (rec_x9_refuse _) (dc182 (x := 0) (y := 84) bs_x9_seen (by decide +kernel) rfl) rfl (G_iret rfl (dc172 bs_x9_seen (by decide +kernel))))))))))))))))
    (G_ldAn (n := 0) (nx := 24) (dc42 bs_x9_seen (by decide +kernel)) rfl rfl (G_ic (n := -1) (nx := 25) (dc2 bs_x9_seen (by decide +kernel)) icv_m1 rfl (G_callV (b0 := 0) (nx := 28) (T := TX9) (ci := 9) (g_Fn_of rfl h_x9_refuse) (cw_9_84) ⟨wd2_186, sel_GalleyRoom_refuse__I_I⟩ ⟨rfl, rfl⟩ ⟨by decide, by show 3 ≤ 21; decide⟩ (Nat.zero_le _) (rec_x9_refuse _) (dc182 (x := 0) (y := 84) bs_x9_seen (by decide +kernel) rfl) rfl (G_iret rfl (dc172 bs_x9_seen (by decide +kernel))))))))))))
    exact ht _ _ σ q ((e_x9_seen x9_refuse x9_answer σ l1 l2).symm.trans e1)
  exact g_meth (σ' := q.1) (v := some (.inl q.2)) (by decide) rfl hw hwf hok (Nat.le_of_ble_eq_true rfl) hGo (fun σ2 v2 h => retI_inv h) (by exact e2)

set_option maxRecDepth 100000 in
set_option maxHeartbeats 4000000 in
theorem h_x9_forget : g_Ft M_x9_forget yX9_forget 1 (FW_x9_forget x9_forget) := by
  intro l w hw σ as hlen hwf hok ρ k r e
  unfold FW_x9_forget at e
  obtain ⟨hh0, e⟩ := p_C_inv e
  have e := p_E_inv e
  obtain ⟨q, e1, e2⟩ := Option.bind_eq_some_iff.mp e
  have has : as = [.inr (.inr (some (9, 0)))] := g_as1 hlen hh0
  subst has
  have hGo : g_Go M_x9_forget retI (me M_x9_forget) 0 (g_loc [.inr (.inr (some (9, 0)))] (ml M_x9_forget)) [] σ q := by
    have ht : g_Gd M_x9_forget retI (me M_x9_forget) 0 (t_x9_forget) := (G_ldAn (n := 0) (nx := 1) (dc42 bs_x9_forget (by decide +kernel)) rfl rfl (G_getRc (nx := 4) fl_9_20 rf_9_1 (dc180 (x := 0) (y := 20) bs_x9_forget (by decide +kernel) rfl) rfl (G_getI (nx := 7) fl_9_269 (Or.inl rfl) (dc180 (x := 1) (y := 13) bs_x9_forget (by decide +kernel) rfl) rfl (G_stIn (n := 1) (nx := 8) (by show 1 < 2; decide) (dc60 bs_x9_forget (by decide +kernel)) rfl rfl (G_ldAn (n := 0) (nx := 9) (dc42 bs_x9_forget (by decide +kernel)) rfl rfl (G_getRc (nx := 12) fl_9_20 rf_9_1 (dc180 (x := 0) (y := 20) bs_x9_forget (by decide +kernel) rfl) rfl (G_ic (n := 0) (nx := 13) (dc3 bs_x9_forget (by decide +kernel)) icv_0 rfl (G_putI (nx := 16) fp_9_269 rfl (dc181 (x := 1) (y := 13) bs_x9_forget (by decide +kernel) rfl) rfl (G_ldIn (n := 1) (nx := 17) (dc27 bs_x9_forget (by decide +kernel)) rfl rfl (G_iret rfl (dc172 bs_x9_forget (by decide +kernel))))))))))))
    exact ht _ _ σ q ((e_x9_forget  σ ).symm.trans e1)
  exact g_meth (σ' := q.1) (v := some (.inl q.2)) (by decide) rfl hw hwf hok (Nat.le_of_ble_eq_true rfl) hGo (fun σ2 v2 h => retI_inv h) (by exact e2)

set_option maxRecDepth 100000 in
set_option maxHeartbeats 4000000 in
theorem h_x9_canBe : g_Ft M_x9_canBe yX9_canBe 1 (FW_x9_canBe x9_canBe) := by
  intro l w hw σ as hlen hwf hok ρ k r e
  unfold FW_x9_canBe at e
  obtain ⟨hh0, e⟩ := p_C_inv e
  have e := p_E_inv e
  obtain ⟨q, e1, e2⟩ := Option.bind_eq_some_iff.mp e
  have has : as = [.inr (.inr (some (9, 0)))] := g_as1 hlen hh0
  subst has
  have hGo : g_Go M_x9_canBe retI (me M_x9_canBe) 0 (g_loc [.inr (.inr (some (9, 0)))] (ml M_x9_canBe)) [] σ q := by
    have ht : g_Gd M_x9_canBe retI (me M_x9_canBe) 0 (t_x9_canBe x7_readSetting x7_linesAsSeen) := (G_ldAn (n := 0) (nx := 1) (dc42 bs_x9_canBe (by decide +kernel)) rfl rfl (G_getRc (nx := 4) fl_9_60 rf_9_9 (dc180 (x := 0) (y := 60) bs_x9_canBe (by decide +kernel) rfl) rfl (G_ldAn (n := 0) (nx := 5) (dc42 bs_x9_canBe (by decide +kernel)) rfl rfl (G_getRc (nx := 8) fl_9_20 rf_9_1 (dc180 (x := 0) (y := 20) bs_x9_canBe (by decide +kernel) rfl) rfl (G_callV (b0 := 0) (nx := 11) (T := TX7) (ci := 7) (g_Fn_of rfl h_x7_readSetting) (cw_9_122) ⟨wd2_218, wd2_219⟩ ⟨rfl, rfl⟩ ⟨by decide, by show 4 ≤ 21; decide⟩ (Nat.zero_le _) (rec_x7_readSetting _) (dc182 (x := 0) (y := 122) bs_x9_canBe (by decide +kernel) rfl) rfl (G_ldAn (n := 0) (nx := 12) (dc42 bs_x9_canBe (by decide +kernel)) rfl rfl (G_getRc (nx := 15) fl_9_60 rf_9_9 (dc180 (x := 0) (y := 60) bs_x9_canBe (by decide +kernel) rfl) rfl (G_ldAn (n := 0) (nx := 16) (dc42 bs_x9_canBe (by decide +kernel)) rfl rfl (G_getRc (nx := 19) fl_9_20 rf_9_1 (dc180 (x := 0) (y := 20) bs_x9_canBe (by decide +kernel) rfl) rfl (G_callV (b0 := 0) (nx := 22) (T := TX7) (ci := 7) (g_Fn_of rfl h_x7_linesAsSeen) (cw_9_278) ⟨wd5_26, wd5_27⟩ ⟨rfl, rfl⟩ ⟨by decide, by show 4 ≤ 21; decide⟩ (Nat.zero_le _) (rec_x7_linesAsSeen _) (dc182 (x := 1) (y := 22) bs_x9_canBe (by decide +kernel) rfl) rfl (G_iret rfl (dc172 bs_x9_canBe (by decide +kernel)))))))))))))
    exact ht _ _ σ q ((e_x9_canBe x7_readSetting x7_linesAsSeen σ ).symm.trans e1)
  exact g_meth (σ' := q.1) (v := some (.inl q.2)) (by decide) rfl hw hwf hok (Nat.le_of_ble_eq_true rfl) hGo (fun σ2 v2 h => retI_inv h) (by exact e2)

set_option maxRecDepth 100000 in
set_option maxHeartbeats 4000000 in
theorem B_x9_look_b56 : ∀ (n : Nat) (s : Sg) (l1 : Int32) (l2 : Int32) (l3 : Int32) (l4 : Int32) (l5 : Int32) (r : (Sg × Int32)), x9_look_b56 n s l1 l2 l3 l4 l5 = some r → g_Go M_x9_look retI 0 56 [some (.inr (.inr (some (9, 0)))), some (.inl l1), some (.inl l2), some (.inl l3), some (.inl l4), some (.inl l5), none] [] s r := by
  intro n
  induction n with
  | zero => intro s l1 l2 l3 l4 l5 r h; cases h
  | succ n hK56 =>
    intro s l1 l2 l3 l4 l5 r h
    have ht : g_Gd M_x9_look retI 0 56 (t_x9_look_b56 (x9_look_b56 n) x7_mostAlike) := (G_ldI (nx := 58) (dc21 (x := 5) bs_x9_look (by decide +kernel)) rfl (G_gets (nx := 61) (nm := "TOLD_BY_FACT") (Or.inr (Or.inr ⟨rfl, rfl⟩)) rfl (Or.inl wd5_15) (dc178 (x := 1) (y := 10) bs_x9_look (by decide +kernel) rfl) rfl (G_alen (nx := 62) ak_78 (by decide) (dc190 bs_x9_look (by decide +kernel)) rfl (G_icmpge (off := 35) (tg := 97) (nf := 65) (dc162 (x := 0) (y := 35) bs_x9_look (by decide +kernel) (by decide +kernel)) (by decide +kernel) rfl
    (G_ldAn (n := 0) (nx := 66) (dc42 bs_x9_look (by decide +kernel)) rfl rfl (G_getRc (nx := 69) fl_9_60 rf_9_9 (dc180 (x := 0) (y := 60) bs_x9_look (by decide +kernel) rfl) rfl (G_ldIn (n := 2) (nx := 70) (dc28 bs_x9_look (by decide +kernel)) rfl rfl (G_ldI (nx := 72) (dc21 (x := 5) bs_x9_look (by decide +kernel)) rfl (G_callV (b0 := 0) (nx := 75) (T := TX7) (ci := 7) (g_Fn_of rfl h_x7_mostAlike) (cw_9_281) ⟨wd5_43, wd5_44⟩ ⟨rfl, rfl⟩ ⟨by decide, by show 7 ≤ 21; decide⟩ (Nat.zero_le _) (rec_x7_mostAlike _) (dc182 (x := 1) (y := 25) bs_x9_look (by decide +kernel) rfl) rfl (G_stI (nx := 77) (by show 6 < 7; decide) (dc54 (x := 6) bs_x9_look (by decide +kernel)) rfl (G_ldI (nx := 79) (dc21 (x := 6) bs_x9_look (by decide +kernel)) rfl (G_ldI (nx := 81) (dc21 (x := 4) bs_x9_look (by decide +kernel)) rfl (G_icmpge (off := 10) (tg := 91) (nf := 84) (dc162 (x := 0) (y := 10) bs_x9_look (by decide +kernel) (by decide +kernel)) (by decide +kernel) rfl
      (G_ldI (nx := 86) (dc21 (x := 5) bs_x9_look (by decide +kernel)) rfl (G_stIn (n := 3) (nx := 87) (by show 3 < 7; decide) (dc62 bs_x9_look (by decide +kernel)) rfl rfl (G_ldI (nx := 89) (dc21 (x := 6) bs_x9_look (by decide +kernel)) rfl (G_stI (nx := 91) (by show 4 < 7; decide) (dc54 (x := 4) bs_x9_look (by decide +kernel)) rfl (G_inc (n := 1) (nx := 94) (by show 5 < 7; decide) (dc132 (x := 5) (y := 1) bs_x9_look (by decide +kernel) (by decide +kernel)) icv_1 rfl (G_goto (off := -38) (nx := 56) (dc167 (x := 255) (y := 218) bs_x9_look (by decide +kernel) (by decide +kernel)) (by decide +kernel) (G_lbl (Gp_C <| Gp_I fun a1 => Gp_I fun a2 => Gp_I fun a3 => Gp_I fun a4 => Gp_I fun a5 => Gp_E fun s r h => hK56 s a1 a2 a3 a4 a5 r h))))))))
      (G_inc (n := 1) (nx := 94) (by show 5 < 7; decide) (dc132 (x := 5) (y := 1) bs_x9_look (by decide +kernel) (by decide +kernel)) icv_1 rfl (G_goto (off := -38) (nx := 56) (dc167 (x := 255) (y := 218) bs_x9_look (by decide +kernel) (by decide +kernel)) (by decide +kernel) (G_lbl (Gp_C <| Gp_I fun a1 => Gp_I fun a2 => Gp_I fun a3 => Gp_I fun a4 => Gp_I fun a5 => Gp_E fun s r h => hK56 s a1 a2 a3 a4 a5 r h)))))))))))))
    (G_ldIn (n := 1) (nx := 98) (dc27 bs_x9_look (by decide +kernel)) rfl rfl (G_ifne (off := 7) (tg := 105) (nf := 101) (dc154 (x := 0) (y := 7) bs_x9_look (by decide +kernel) (by decide +kernel)) (by decide +kernel) rfl
      (G_ldIn (n := 3) (nx := 102) (dc29 bs_x9_look (by decide +kernel)) rfl rfl (G_goto (off := 5) (nx := 107) (dc167 (x := 0) (y := 5) bs_x9_look (by decide +kernel) (by decide +kernel)) (by decide +kernel) (G_iret rfl (dc172 bs_x9_look (by decide +kernel)))))
      (G_ldI (nx := 107) (dc21 (x := 4) bs_x9_look (by decide +kernel)) rfl (G_iret rfl (dc172 bs_x9_look (by decide +kernel))))))))))
    exact ht _ _ s r ((e_x9_look_b56 (x9_look_b56 n) x7_mostAlike s l1 l2 l3 l4 l5).symm.trans h)

set_option maxRecDepth 100000 in
set_option maxHeartbeats 4000000 in
theorem h_x9_look : g_Ft M_x9_look yX9_look 2 (FW_x9_look x9_look) := by
  intro l w hw σ as hlen hwf hok ρ k r e
  unfold FW_x9_look at e
  obtain ⟨hh0, e⟩ := p_C_inv e
  obtain ⟨l1, hh1, e⟩ := p_I_inv e
  have e := p_E_inv e
  obtain ⟨q, e1, e2⟩ := Option.bind_eq_some_iff.mp e
  have has : as = [.inr (.inr (some (9, 0))), .inl l1] := g_as2 hlen hh0 hh1
  subst has
  have hGo : g_Go M_x9_look retI (me M_x9_look) 0 (g_loc [.inr (.inr (some (9, 0))), .inl l1] (ml M_x9_look)) [] σ q := by
    have ht : g_Gd M_x9_look retI (me M_x9_look) 0 (t_x9_look (x9_look_b56 FU) x7_readSetting x7_linesAsSeen x7_mostAlike) := (G_ldIn (n := 1) (nx := 1) (dc27 bs_x9_look (by decide +kernel)) rfl rfl (G_iflt (off := 8) (tg := 9) (nf := 4) (dc155 (x := 0) (y := 8) bs_x9_look (by decide +kernel) (by decide +kernel)) (by decide +kernel) rfl
  (G_ic (n := -1) (nx := 10) (dc2 bs_x9_look (by decide +kernel)) icv_m1 rfl (G_iret rfl (dc172 bs_x9_look (by decide +kernel))))
  (G_ldIn (n := 1) (nx := 5) (dc27 bs_x9_look (by decide +kernel)) rfl rfl (G_ic (n := 1) (nx := 6) (dc4 bs_x9_look (by decide +kernel)) icv_1 rfl (G_icmple (off := 5) (tg := 11) (nf := 9) (dc164 (x := 0) (y := 5) bs_x9_look (by decide +kernel) (by decide +kernel)) (by decide +kernel) rfl
    (G_ic (n := -1) (nx := 10) (dc2 bs_x9_look (by decide +kernel)) icv_m1 rfl (G_iret rfl (dc172 bs_x9_look (by decide +kernel))))
    (G_ldAn (n := 0) (nx := 12) (dc42 bs_x9_look (by decide +kernel)) rfl rfl (G_getRc (nx := 15) fl_9_60 rf_9_9 (dc180 (x := 0) (y := 60) bs_x9_look (by decide +kernel) rfl) rfl (G_ldAn (n := 0) (nx := 16) (dc42 bs_x9_look (by decide +kernel)) rfl rfl (G_getRc (nx := 19) fl_9_20 rf_9_1 (dc180 (x := 0) (y := 20) bs_x9_look (by decide +kernel) rfl) rfl (G_callV (b0 := 0) (nx := 22) (T := TX7) (ci := 7) (g_Fn_of rfl h_x7_readSetting) (cw_9_122) ⟨wd2_218, wd2_219⟩ ⟨rfl, rfl⟩ ⟨by decide, by show 4 ≤ 21; decide⟩ (Nat.zero_le _) (rec_x7_readSetting _) (dc182 (x := 0) (y := 122) bs_x9_look (by decide +kernel) rfl) rfl (G_ldAn (n := 0) (nx := 23) (dc42 bs_x9_look (by decide +kernel)) rfl rfl (G_getRc (nx := 26) fl_9_60 rf_9_9 (dc180 (x := 0) (y := 60) bs_x9_look (by decide +kernel) rfl) rfl (G_ldAn (n := 0) (nx := 27) (dc42 bs_x9_look (by decide +kernel)) rfl rfl (G_getRc (nx := 30) fl_9_20 rf_9_1 (dc180 (x := 0) (y := 20) bs_x9_look (by decide +kernel) rfl) rfl (G_callV (b0 := 0) (nx := 33) (T := TX7) (ci := 7) (g_Fn_of rfl h_x7_linesAsSeen) (cw_9_278) ⟨wd5_26, wd5_27⟩ ⟨rfl, rfl⟩ ⟨by decide, by show 4 ≤ 21; decide⟩ (Nat.zero_le _) (rec_x7_linesAsSeen _) (dc182 (x := 1) (y := 22) bs_x9_look (by decide +kernel) rfl) rfl (G_stIn (n := 2) (nx := 34) (by show 2 < 7; decide) (dc61 bs_x9_look (by decide +kernel)) rfl rfl (G_ldIn (n := 2) (nx := 35) (dc28 bs_x9_look (by decide +kernel)) rfl rfl (G_ifne (off := 5) (tg := 40) (nf := 38) (dc154 (x := 0) (y := 5) bs_x9_look (by decide +kernel) (by decide +kernel)) (by decide +kernel) rfl
      (G_ic (n := -1) (nx := 39) (dc2 bs_x9_look (by decide +kernel)) icv_m1 rfl (G_iret rfl (dc172 bs_x9_look (by decide +kernel))))
      (G_ic (n := 0) (nx := 41) (dc3 bs_x9_look (by decide +kernel)) icv_0 rfl (G_stIn (n := 3) (nx := 42) (by show 3 < 7; decide) (dc62 bs_x9_look (by decide +kernel)) rfl rfl (G_ldAn (n := 0) (nx := 43) (dc42 bs_x9_look (by decide +kernel)) rfl rfl (G_getRc (nx := 46) fl_9_60 rf_9_9 (dc180 (x := 0) (y := 60) bs_x9_look (by decide +kernel) rfl) rfl (G_ldIn (n := 2) (nx := 47) (dc28 bs_x9_look (by decide +kernel)) rfl rfl (G_ic (n := 0) (nx := 48) (dc3 bs_x9_look (by decide +kernel)) icv_0 rfl (G_callV (b0 := 0) (nx := 51) (T := TX7) (ci := 7) (g_Fn_of rfl h_x7_mostAlike) (cw_9_281) ⟨wd5_43, wd5_44⟩ ⟨rfl, rfl⟩ ⟨by decide, by show 7 ≤ 21; decide⟩ (Nat.zero_le _) (rec_x7_mostAlike _) (dc182 (x := 1) (y := 25) bs_x9_look (by decide +kernel) rfl) rfl (G_stI (nx := 53) (by show 4 < 7; decide) (dc54 (x := 4) bs_x9_look (by decide +kernel)) rfl (G_ic (n := 1) (nx := 54) (dc4 bs_x9_look (by decide +kernel)) icv_1 rfl (G_stI (nx := 56) (by show 5 < 7; decide) (dc54 (x := 5) bs_x9_look (by decide +kernel)) rfl (G_lbl (Gp_C <| Gp_I fun a1 => Gp_I fun a2 => Gp_I fun a3 => Gp_I fun a4 => Gp_I fun a5 => Gp_E fun s r h => B_x9_look_b56 FU s a1 a2 a3 a4 a5 r h))))))))))))))))))))))))))))))
    exact ht _ _ σ q ((e_x9_look (x9_look_b56 FU) x7_readSetting x7_linesAsSeen x7_mostAlike σ l1).symm.trans e1)
  exact g_meth (σ' := q.1) (v := some (.inl q.2)) (by decide) rfl hw hwf hok (Nat.le_of_ble_eq_true rfl) hGo (fun σ2 v2 h => retI_inv h) (by exact e2)

set_option maxRecDepth 100000 in
set_option maxHeartbeats 4000000 in
theorem h_x9_nextDraw : g_Ft M_x9_nextDraw yX9_nextDraw 1 (FW_x9_nextDraw x9_nextDraw) := by
  intro l w hw σ as hlen hwf hok ρ k r e
  unfold FW_x9_nextDraw at e
  obtain ⟨l0, hh0, e⟩ := p_I_inv e
  have e := p_E_inv e
  obtain ⟨q, e1, e2⟩ := Option.bind_eq_some_iff.mp e
  have has : as = [.inl l0] := g_as1 hlen hh0
  subst has
  have hGo : g_Go M_x9_nextDraw retI (me M_x9_nextDraw) 0 (g_loc [.inl l0] (ml M_x9_nextDraw)) [] σ q := by
    have ht : g_Gd M_x9_nextDraw retI (me M_x9_nextDraw) 0 (t_x9_nextDraw) := (G_ldIn (n := 0) (nx := 1) (dc26 bs_x9_nextDraw (by decide +kernel)) rfl rfl (G_si (n := 1103) (nx := 4) (dc17 (x := 4) (y := 79) bs_x9_nextDraw (by decide +kernel) (by decide +kernel)) siv_1103 rfl (G_imul (nx := 5) (dc104 bs_x9_nextDraw (by decide +kernel)) rfl (G_si (n := 12345) (nx := 8) (dc17 (x := 48) (y := 57) bs_x9_nextDraw (by decide +kernel) (by decide +kernel)) siv_12345 rfl (G_iadd (nx := 9) (dc96 bs_x9_nextDraw (by decide +kernel)) rfl (G_ldcw (nx := 12) wd5_67 (dc19 (x := 1) (y := 59) bs_x9_nextDraw (by decide +kernel) rfl) rfl (G_irem (nx := 13) (dc112 bs_x9_nextDraw (by decide +kernel)) rfl (G_iret rfl (dc172 bs_x9_nextDraw (by decide +kernel))))))))))
    exact ht _ _ σ q ((e_x9_nextDraw  σ l0).symm.trans e1)
  exact g_meth (σ' := q.1) (v := some (.inl q.2)) (by decide) rfl hw hwf hok (Nat.le_of_ble_eq_true rfl) hGo (fun σ2 v2 h => retI_inv h) (by exact e2)

set_option maxRecDepth 100000 in
set_option maxHeartbeats 4000000 in
theorem B_x9_weeks_b64 : ∀ (n : Nat) (s : Sg) (l2 : Int32) (l3 : Int32) (l4 : Int32) (l5 : Int32) (r : (Sg × Int32)), x9_weeks_b64 n s l2 l3 l4 l5 = some r → g_Go M_x9_weeks retI 0 64 [some (.inr (.inr (some (9, 0)))), none, some (.inl l2), some (.inl l3), some (.inl l4), some (.inl l5), none, none] [] s r := by
  intro n
  induction n with
  | zero => intro s l2 l3 l4 l5 r h; cases h
  | succ n hK64 =>
    intro s l2 l3 l4 l5 r h
    have ht : g_Gd M_x9_weeks retI 0 64 (t_x9_weeks_b64 (x9_weeks_b64 n) x9_nextDraw x1_carryOutIfItCanBe x7_howManyFit x9_answer) := (G_ldI (nx := 66) (dc21 (x := 5) bs_x9_weeks (by decide +kernel)) rfl (G_ldIn (n := 2) (nx := 67) (dc28 bs_x9_weeks (by decide +kernel)) rfl rfl (G_icmpge (off := 111) (tg := 178) (nf := 70) (dc162 (x := 0) (y := 111) bs_x9_weeks (by decide +kernel) (by decide +kernel)) (by decide +kernel) rfl
    (G_ldAn (n := 0) (nx := 71) (dc42 bs_x9_weeks (by decide +kernel)) rfl rfl (G_getRc (nx := 74) fl_9_29 rf_9_3 (dc180 (x := 0) (y := 29) bs_x9_weeks (by decide +kernel) rfl) rfl (G_getRv (nx := 77) fl_9_144 rf_1_3 (dc180 (x := 0) (y := 144) bs_x9_weeks (by decide +kernel) rfl) rfl (G_ic (n := 0) (nx := 78) (dc3 bs_x9_weeks (by decide +kernel)) icv_0 rfl (G_iald (nx := 79) ak_15 (dc46 bs_x9_weeks (by decide +kernel)) rfl (G_si (n := 999) (nx := 82) (dc17 (x := 3) (y := 231) bs_x9_weeks (by decide +kernel) (by decide +kernel)) siv_999 rfl (G_icmpge (off := 96) (tg := 178) (nf := 85) (dc162 (x := 0) (y := 96) bs_x9_weeks (by decide +kernel) (by decide +kernel)) (by decide +kernel) rfl
      (G_ldIn (n := 3) (nx := 86) (dc29 bs_x9_weeks (by decide +kernel)) rfl rfl (G_callS (b0 := 0) (nx := 89) (g_Fn_of rfl h_x9_nextDraw) (cw_9_301) wd5_65 rfl ⟨by decide, by show 1 ≤ 21; decide⟩ (Nat.zero_le _) (dc184 (x := 1) (y := 45) bs_x9_weeks (by decide +kernel) rfl) rfl (G_stIn (n := 3) (nx := 90) (by show 3 < 8; decide) (dc62 bs_x9_weeks (by decide +kernel)) rfl rfl (G_ldIn (n := 3) (nx := 91) (dc29 bs_x9_weeks (by decide +kernel)) rfl rfl (G_ic (n := 1) (nx := 92) (dc4 bs_x9_weeks (by decide +kernel)) icv_1 rfl (G_ldAn (n := 0) (nx := 93) (dc42 bs_x9_weeks (by decide +kernel)) rfl rfl (G_getRc (nx := 96) fl_9_29 rf_9_3 (dc180 (x := 0) (y := 29) bs_x9_weeks (by decide +kernel) rfl) rfl (G_getI (nx := 99) fl_9_88 (Or.inl rfl) (dc180 (x := 0) (y := 88) bs_x9_weeks (by decide +kernel) rfl) rfl (G_max (nx := 102) ⟨wd5_68, wd2_22, wd1_10, wd2_23⟩ (by decide) (dc184 (x := 1) (y := 48) bs_x9_weeks (by decide +kernel) rfl) rfl (G_irem (nx := 103) (dc112 bs_x9_weeks (by decide +kernel)) rfl (G_stI (nx := 105) (by show 6 < 8; decide) (dc54 (x := 6) bs_x9_weeks (by decide +kernel)) rfl (G_ldIn (n := 3) (nx := 106) (dc29 bs_x9_weeks (by decide +kernel)) rfl rfl (G_callS (b0 := 0) (nx := 109) (g_Fn_of rfl h_x9_nextDraw) (cw_9_301) wd5_65 rfl ⟨by decide, by show 1 ≤ 21; decide⟩ (Nat.zero_le _) (dc184 (x := 1) (y := 45) bs_x9_weeks (by decide +kernel) rfl) rfl (G_stIn (n := 3) (nx := 110) (by show 3 < 8; decide) (dc62 bs_x9_weeks (by decide +kernel)) rfl rfl (G_ldIn (n := 3) (nx := 111) (dc29 bs_x9_weeks (by decide +kernel)) rfl rfl (G_bi (n := 20) (nx := 113) (dc16 (x := 20) bs_x9_weeks (by decide +kernel) (by decide +kernel)) biv_20 rfl (G_irem (nx := 114) (dc112 bs_x9_weeks (by decide +kernel)) rfl (G_ic (n := 1) (nx := 115) (dc4 bs_x9_weeks (by decide +kernel)) icv_1 rfl (G_iadd (nx := 116) (dc96 bs_x9_weeks (by decide +kernel)) rfl (G_stI (nx := 118) (by show 7 < 8; decide) (dc54 (x := 7) bs_x9_weeks (by decide +kernel)) rfl (G_ldIn (n := 3) (nx := 119) (dc29 bs_x9_weeks (by decide +kernel)) rfl rfl (G_callS (b0 := 0) (nx := 122) (g_Fn_of rfl h_x9_nextDraw) (cw_9_301) wd5_65 rfl ⟨by decide, by show 1 ≤ 21; decide⟩ (Nat.zero_le _) (dc184 (x := 1) (y := 45) bs_x9_weeks (by decide +kernel) rfl) rfl (G_stIn (n := 3) (nx := 123) (by show 3 < 8; decide) (dc62 bs_x9_weeks (by decide +kernel)) rfl rfl (G_ldAn (n := 0) (nx := 124) (dc42 bs_x9_weeks (by decide +kernel)) rfl rfl (G_getRc (nx := 127) fl_9_29 rf_9_3 (dc180 (x := 0) (y := 29) bs_x9_weeks (by decide +kernel) rfl) rfl (G_ic (n := 0) (nx := 128) (dc3 bs_x9_weeks (by decide +kernel)) icv_0 rfl (G_ldIn (n := 3) (nx := 129) (dc29 bs_x9_weeks (by decide +kernel)) rfl rfl (G_ic (n := 4) (nx := 130) (dc7 bs_x9_weeks (by decide +kernel)) icv_4 rfl (G_irem (nx := 131) (dc112 bs_x9_weeks (by decide +kernel)) rfl (G_ic (n := 1) (nx := 132) (dc4 bs_x9_weeks (by decide +kernel)) icv_1 rfl (G_isub (nx := 133) (dc100 bs_x9_weeks (by decide +kernel)) rfl (G_max (nx := 136) ⟨wd5_68, wd2_22, wd1_10, wd2_23⟩ (by decide) (dc184 (x := 1) (y := 48) bs_x9_weeks (by decide +kernel) rfl) rfl (G_ldI (nx := 138) (dc21 (x := 6) bs_x9_weeks (by decide +kernel)) rfl (G_ldI (nx := 140) (dc21 (x := 7) bs_x9_weeks (by decide +kernel)) rfl (G_callV (b0 := 0) (nx := 143) (T := TX1) (ci := 1) (g_Fn_of rfl h_x1_carryOutIfItCanBe) (cw_9_309) ⟨wd4_69, wd4_70⟩ ⟨rfl, rfl⟩ ⟨by decide, by show 4 ≤ 21; decide⟩ (Nat.zero_le _) (rec_x1_carryOutIfItCanBe _) (dc182 (x := 1) (y := 53) bs_x9_weeks (by decide +kernel) rfl) rfl (G_ldI (nx := 145) (dc21 (x := 4) bs_x9_weeks (by decide +kernel)) rfl (G_ldAn (n := 0) (nx := 146) (dc42 bs_x9_weeks (by decide +kernel)) rfl rfl (G_getRc (nx := 149) fl_9_60 rf_9_9 (dc180 (x := 0) (y := 60) bs_x9_weeks (by decide +kernel) rfl) rfl (G_ldAn (n := 0) (nx := 150) (dc42 bs_x9_weeks (by decide +kernel)) rfl rfl (G_getRc (nx := 153) fl_9_29 rf_9_3 (dc180 (x := 0) (y := 29) bs_x9_weeks (by decide +kernel) rfl) rfl (G_callV (b0 := 0) (nx := 156) (T := TX7) (ci := 7) (g_Fn_of rfl h_x7_howManyFit) (cw_9_216) ⟨wd4_112, wd4_113⟩ ⟨rfl, rfl⟩ ⟨by decide, by show 2 ≤ 21; decide⟩ (Nat.zero_le _) (rec_x7_howManyFit _) (dc182 (x := 0) (y := 216) bs_x9_weeks (by decide +kernel) rfl) rfl (G_iadd (nx := 157) (dc96 bs_x9_weeks (by decide +kernel)) rfl (G_stI (nx := 159) (by show 4 < 8; decide) (dc54 (x := 4) bs_x9_weeks (by decide +kernel)) rfl (G_ldAn (n := 0) (nx := 160) (dc42 bs_x9_weeks (by decide +kernel)) rfl rfl (G_getRc (nx := 163) fl_9_29 rf_9_3 (dc180 (x := 0) (y := 29) bs_x9_weeks (by decide +kernel) rfl) rfl (G_getRv (nx := 166) fl_9_144 rf_1_3 (dc180 (x := 0) (y := 144) bs_x9_weeks (by decide +kernel) rfl) rfl (G_ic (n := 0) (nx := 167) (dc3 bs_x9_weeks (by decide +kernel)) icv_0 rfl (G_dup2 (nx := 168) (dc92 bs_x9_weeks (by decide +kernel)) rfl (G_iald (nx := 169) ak_15 (dc46 bs_x9_weeks (by decide +kernel)) rfl (G_ic (n := 1) (nx := 170) (dc4 bs_x9_weeks (by decide +kernel)) icv_1 rfl (G_iadd (nx := 171) (dc96 bs_x9_weeks (by decide +kernel)) rfl (G_iast (nx := 172) ak_15 (by decide) (dc79 bs_x9_weeks (by decide +kernel)) rfl (G_inc (n := 1) (nx := 175) (by show 5 < 8; decide) (dc132 (x := 5) (y := 1) bs_x9_weeks (by decide +kernel) (by decide +kernel)) icv_1 rfl (G_goto (off := -111) (nx := 64) (dc167 (x := 255) (y := 145) bs_x9_weeks (by decide +kernel) (by decide +kernel)) (by decide +kernel) (G_lbl (Gp_C <| Gp_I fun a2 => Gp_I fun a3 => Gp_I fun a4 => Gp_I fun a5 => Gp_E fun s r h => hK64 s a2 a3 a4 a5 r h))))))))))))))))))))))))))))))))))))))))))))))))))))))))
      (G_ldAn (n := 0) (nx := 179) (dc42 bs_x9_weeks (by decide +kernel)) rfl rfl (G_ldI (nx := 181) (dc21 (x := 4) bs_x9_weeks (by decide +kernel)) rfl (G_callV (b0 := 0) (nx := 184) (T := TX9) (ci := 9) (g_Fn_of rfl h_x9_answer) (cw_9_100) ⟨wd2_194, sel_GalleyRoom_answer__I_I⟩ ⟨rfl, rfl⟩ ⟨by decide, by show 2 ≤ 21; decide⟩ (Nat.zero_le _) (rec_x9_answer _) (dc182 (x := 0) (y := 100) bs_x9_weeks (by decide +kernel) rfl) rfl (G_iret rfl (dc172 bs_x9_weeks (by decide +kernel)))))))))))))
    (G_ldAn (n := 0) (nx := 179) (dc42 bs_x9_weeks (by decide +kernel)) rfl rfl (G_ldI (nx := 181) (dc21 (x := 4) bs_x9_weeks (by decide +kernel)) rfl (G_callV (b0 := 0) (nx := 184) (T := TX9) (ci := 9) (g_Fn_of rfl h_x9_answer) (cw_9_100) ⟨wd2_194, sel_GalleyRoom_answer__I_I⟩ ⟨rfl, rfl⟩ ⟨by decide, by show 2 ≤ 21; decide⟩ (Nat.zero_le _) (rec_x9_answer _) (dc182 (x := 0) (y := 100) bs_x9_weeks (by decide +kernel) rfl) rfl (G_iret rfl (dc172 bs_x9_weeks (by decide +kernel)))))))))
    exact ht _ _ s r ((e_x9_weeks_b64 (x9_weeks_b64 n) x9_nextDraw x1_carryOutIfItCanBe x7_howManyFit x9_answer s l2 l3 l4 l5).symm.trans h)

set_option maxRecDepth 100000 in
set_option maxHeartbeats 4000000 in
theorem h_x9_weeks : g_Ft M_x9_weeks yX9_weeks 3 (FW_x9_weeks x9_weeks) := by
  intro l w hw σ as hlen hwf hok ρ k r e
  unfold FW_x9_weeks at e
  obtain ⟨hh0, e⟩ := p_C_inv e
  obtain ⟨l1, hh1, e⟩ := p_I_inv e
  obtain ⟨l2, hh2, e⟩ := p_I_inv e
  have e := p_E_inv e
  obtain ⟨q, e1, e2⟩ := Option.bind_eq_some_iff.mp e
  have has : as = [.inr (.inr (some (9, 0))), .inl l1, .inl l2] := g_as3 hlen hh0 hh1 hh2
  subst has
  have hGo : g_Go M_x9_weeks retI (me M_x9_weeks) 0 (g_loc [.inr (.inr (some (9, 0))), .inl l1, .inl l2] (ml M_x9_weeks)) [] σ q := by
    have ht : g_Gd M_x9_weeks retI (me M_x9_weeks) 0 (t_x9_weeks (x9_weeks_b64 FU) x9_refuse x1_copyFrom) := (G_ldIn (n := 1) (nx := 1) (dc27 bs_x9_weeks (by decide +kernel)) rfl rfl (G_iflt (off := 21) (tg := 22) (nf := 4) (dc155 (x := 0) (y := 21) bs_x9_weeks (by decide +kernel) (by decide +kernel)) (by decide +kernel) rfl
  (G_ldAn (n := 0) (nx := 23) (dc42 bs_x9_weeks (by decide +kernel)) rfl rfl (G_ic (n := -1) (nx := 24) (dc2 bs_x9_weeks (by decide +kernel)) icv_m1 rfl (G_callV (b0 := 0) (nx := 27) (T := TX9) (ci := 9) (g_Fn_of rfl h_x9_refuse) (cw_9_84) ⟨wd2_186, sel_GalleyRoom_refuse__I_I⟩ ⟨rfl, rfl⟩ ⟨by decide, by show 3 ≤ 21; decide⟩ (Nat.zero_le _) (rec_x9_refuse _) (dc182 (x := 0) (y := 84) bs_x9_weeks (by decide +kernel) rfl) rfl (G_iret rfl (dc172 bs_x9_weeks (by decide +kernel))))))
  (G_ldIn (n := 1) (nx := 5) (dc27 bs_x9_weeks (by decide +kernel)) rfl rfl (G_ldcw (nx := 8) wd5_63 (dc19 (x := 1) (y := 44) bs_x9_weeks (by decide +kernel) rfl) rfl (G_icmpgt (off := 14) (tg := 22) (nf := 11) (dc163 (x := 0) (y := 14) bs_x9_weeks (by decide +kernel) (by decide +kernel)) (by decide +kernel) rfl
    (G_ldAn (n := 0) (nx := 23) (dc42 bs_x9_weeks (by decide +kernel)) rfl rfl (G_ic (n := -1) (nx := 24) (dc2 bs_x9_weeks (by decide +kernel)) icv_m1 rfl (G_callV (b0 := 0) (nx := 27) (T := TX9) (ci := 9) (g_Fn_of rfl h_x9_refuse) (cw_9_84) ⟨wd2_186, sel_GalleyRoom_refuse__I_I⟩ ⟨rfl, rfl⟩ ⟨by decide, by show 3 ≤ 21; decide⟩ (Nat.zero_le _) (rec_x9_refuse _) (dc182 (x := 0) (y := 84) bs_x9_weeks (by decide +kernel) rfl) rfl (G_iret rfl (dc172 bs_x9_weeks (by decide +kernel))))))
    (G_ldIn (n := 2) (nx := 12) (dc28 bs_x9_weeks (by decide +kernel)) rfl rfl (G_ic (n := 1) (nx := 13) (dc4 bs_x9_weeks (by decide +kernel)) icv_1 rfl (G_icmplt (off := 9) (tg := 22) (nf := 16) (dc161 (x := 0) (y := 9) bs_x9_weeks (by decide +kernel) (by decide +kernel)) (by decide +kernel) rfl
      (G_ldAn (n := 0) (nx := 23) (dc42 bs_x9_weeks (by decide +kernel)) rfl rfl (G_ic (n := -1) (nx := 24) (dc2 bs_x9_weeks (by decide +kernel)) icv_m1 rfl (G_callV (b0 := 0) (nx := 27) (T := TX9) (ci := 9) (g_Fn_of rfl h_x9_refuse) (cw_9_84) ⟨wd2_186, sel_GalleyRoom_refuse__I_I⟩ ⟨rfl, rfl⟩ ⟨by decide, by show 3 ≤ 21; decide⟩ (Nat.zero_le _) (rec_x9_refuse _) (dc182 (x := 0) (y := 84) bs_x9_weeks (by decide +kernel) rfl) rfl (G_iret rfl (dc172 bs_x9_weeks (by decide +kernel))))))
      (G_ldIn (n := 2) (nx := 17) (dc28 bs_x9_weeks (by decide +kernel)) rfl rfl (G_bi (n := 60) (nx := 19) (dc16 (x := 60) bs_x9_weeks (by decide +kernel) (by decide +kernel)) biv_60 rfl (G_icmple (off := 9) (tg := 28) (nf := 22) (dc164 (x := 0) (y := 9) bs_x9_weeks (by decide +kernel) (by decide +kernel)) (by decide +kernel) rfl
        (G_ldAn (n := 0) (nx := 23) (dc42 bs_x9_weeks (by decide +kernel)) rfl rfl (G_ic (n := -1) (nx := 24) (dc2 bs_x9_weeks (by decide +kernel)) icv_m1 rfl (G_callV (b0 := 0) (nx := 27) (T := TX9) (ci := 9) (g_Fn_of rfl h_x9_refuse) (cw_9_84) ⟨wd2_186, sel_GalleyRoom_refuse__I_I⟩ ⟨rfl, rfl⟩ ⟨by decide, by show 3 ≤ 21; decide⟩ (Nat.zero_le _) (rec_x9_refuse _) (dc182 (x := 0) (y := 84) bs_x9_weeks (by decide +kernel) rfl) rfl (G_iret rfl (dc172 bs_x9_weeks (by decide +kernel))))))
        (G_ldAn (n := 0) (nx := 29) (dc42 bs_x9_weeks (by decide +kernel)) rfl rfl (G_getRc (nx := 32) fl_9_20 rf_9_1 (dc180 (x := 0) (y := 20) bs_x9_weeks (by decide +kernel) rfl) rfl (G_getI (nx := 35) fl_9_88 (Or.inl rfl) (dc180 (x := 0) (y := 88) bs_x9_weeks (by decide +kernel) rfl) rfl (G_ifne (off := 10) (tg := 45) (nf := 38) (dc154 (x := 0) (y := 10) bs_x9_weeks (by decide +kernel) (by decide +kernel)) (by decide +kernel) rfl
          (G_ldAn (n := 0) (nx := 39) (dc42 bs_x9_weeks (by decide +kernel)) rfl rfl (G_bi (n := -3) (nx := 41) (dc16 (x := 253) bs_x9_weeks (by decide +kernel) (by decide +kernel)) biv_m3 rfl (G_callV (b0 := 0) (nx := 44) (T := TX9) (ci := 9) (g_Fn_of rfl h_x9_refuse) (cw_9_84) ⟨wd2_186, sel_GalleyRoom_refuse__I_I⟩ ⟨rfl, rfl⟩ ⟨by decide, by show 3 ≤ 21; decide⟩ (Nat.zero_le _) (rec_x9_refuse _) (dc182 (x := 0) (y := 84) bs_x9_weeks (by decide +kernel) rfl) rfl (G_iret rfl (dc172 bs_x9_weeks (by decide +kernel))))))
          (G_ldAn (n := 0) (nx := 46) (dc42 bs_x9_weeks (by decide +kernel)) rfl rfl (G_getRc (nx := 49) fl_9_29 rf_9_3 (dc180 (x := 0) (y := 29) bs_x9_weeks (by decide +kernel) rfl) rfl (G_ldAn (n := 0) (nx := 50) (dc42 bs_x9_weeks (by decide +kernel)) rfl rfl (G_getRc (nx := 53) fl_9_20 rf_9_1 (dc180 (x := 0) (y := 20) bs_x9_weeks (by decide +kernel) rfl) rfl (G_callV (b0 := 0) (nx := 56) (T := TX1) (ci := 1) (g_Fn_of rfl h_x1_copyFrom) (cw_9_257) ⟨wd4_21, wd4_22⟩ ⟨rfl, rfl⟩ ⟨by decide, by show 3 ≤ 21; decide⟩ (Nat.zero_le _) (rec_x1_copyFrom _) (dc182 (x := 1) (y := 1) bs_x9_weeks (by decide +kernel) rfl) rfl (G_ldIn (n := 1) (nx := 57) (dc27 bs_x9_weeks (by decide +kernel)) rfl rfl (G_stIn (n := 3) (nx := 58) (by show 3 < 8; decide) (dc62 bs_x9_weeks (by decide +kernel)) rfl rfl (G_ic (n := 0) (nx := 59) (dc3 bs_x9_weeks (by decide +kernel)) icv_0 rfl (G_stI (nx := 61) (by show 4 < 8; decide) (dc54 (x := 4) bs_x9_weeks (by decide +kernel)) rfl (G_ic (n := 0) (nx := 62) (dc3 bs_x9_weeks (by decide +kernel)) icv_0 rfl (G_stI (nx := 64) (by show 5 < 8; decide) (dc54 (x := 5) bs_x9_weeks (by decide +kernel)) rfl (G_lbl (Gp_C <| Gp_I fun a2 => Gp_I fun a3 => Gp_I fun a4 => Gp_I fun a5 => Gp_E fun s r h => B_x9_weeks_b64 FU s a2 a3 a4 a5 r h))))))))))))))))))))))))))))
    exact ht _ _ σ q ((e_x9_weeks (x9_weeks_b64 FU) x9_refuse x1_copyFrom σ l1 l2).symm.trans e1)
  exact g_meth (σ' := q.1) (v := some (.inl q.2)) (by decide) rfl hw hwf hok (Nat.le_of_ble_eq_true rfl) hGo (fun σ2 v2 h => retI_inv h) (by exact e2)

set_option maxRecDepth 100000 in
set_option maxHeartbeats 4000000 in
theorem h_x9_drawn : g_Ft M_x9_drawn yX9_drawn 3 (FW_x9_drawn x9_drawn) := by
  intro l w hw σ as hlen hwf hok ρ k r e
  unfold FW_x9_drawn at e
  obtain ⟨hh0, e⟩ := p_C_inv e
  obtain ⟨l1, hh1, e⟩ := p_I_inv e
  obtain ⟨l2, hh2, e⟩ := p_I_inv e
  have e := p_E_inv e
  obtain ⟨q, e1, e2⟩ := Option.bind_eq_some_iff.mp e
  have has : as = [.inr (.inr (some (9, 0))), .inl l1, .inl l2] := g_as3 hlen hh0 hh1 hh2
  subst has
  have hGo : g_Go M_x9_drawn retI (me M_x9_drawn) 0 (g_loc [.inr (.inr (some (9, 0))), .inl l1, .inl l2] (ml M_x9_drawn)) [] σ q := by
    have ht : g_Gd M_x9_drawn retI (me M_x9_drawn) 0 (t_x9_drawn x1_has x1_endsAfter x1_isSplit) := (G_ldAn (n := 0) (nx := 1) (dc42 bs_x9_drawn (by decide +kernel)) rfl rfl (G_getRc (nx := 4) fl_9_29 rf_9_3 (dc180 (x := 0) (y := 29) bs_x9_drawn (by decide +kernel) rfl) rfl (G_ldIn (n := 1) (nx := 5) (dc27 bs_x9_drawn (by decide +kernel)) rfl rfl (G_callV (b0 := 0) (nx := 8) (T := TX1) (ci := 1) (g_Fn_of rfl h_x1_has) (cw_9_103) ⟨wd2_201, wd2_202⟩ ⟨rfl, rfl⟩ ⟨by decide, by show 2 ≤ 21; decide⟩ (Nat.zero_le _) (rec_x1_has _) (dc182 (x := 0) (y := 103) bs_x9_drawn (by decide +kernel) rfl) rfl (G_ifne (off := 5) (tg := 13) (nf := 11) (dc154 (x := 0) (y := 5) bs_x9_drawn (by decide +kernel) (by decide +kernel)) (by decide +kernel) rfl
  (G_ic (n := -1) (nx := 12) (dc2 bs_x9_drawn (by decide +kernel)) icv_m1 rfl (G_iret rfl (dc172 bs_x9_drawn (by decide +kernel))))
  (G_ldIn (n := 2) (nx := 14) (dc28 bs_x9_drawn (by decide +kernel)) rfl rfl (G_sw (dflt := 70) (lo := 0) (hi := 2) (offs := #[26, 36, 53]) (len := 26) (td := 84) (by decide +kernel) (by decide +kernel)
    (List.forall_mem_cons.mpr ⟨⟨26, 40, by decide +kernel, by decide +kernel, by decide +kernel, by decide +kernel,
    (G_ldAn (n := 0) (nx := 41) (dc42 bs_x9_drawn (by decide +kernel)) rfl rfl (G_getRc (nx := 44) fl_9_29 rf_9_3 (dc180 (x := 0) (y := 29) bs_x9_drawn (by decide +kernel) rfl) rfl (G_getRv (nx := 47) fl_9_107 rf_1_0 (dc180 (x := 0) (y := 107) bs_x9_drawn (by decide +kernel) rfl) rfl (G_ldIn (n := 1) (nx := 48) (dc27 bs_x9_drawn (by decide +kernel)) rfl rfl (G_iald (nx := 49) ak_12 (dc46 bs_x9_drawn (by decide +kernel)) rfl (G_iret rfl (dc172 bs_x9_drawn (by decide +kernel))))))))⟩, List.forall_mem_cons.mpr ⟨⟨36, 50, by decide +kernel, by decide +kernel, by decide +kernel, by decide +kernel,
    (G_ldAn (n := 0) (nx := 51) (dc42 bs_x9_drawn (by decide +kernel)) rfl rfl (G_getRc (nx := 54) fl_9_29 rf_9_3 (dc180 (x := 0) (y := 29) bs_x9_drawn (by decide +kernel) rfl) rfl (G_ldIn (n := 1) (nx := 55) (dc27 bs_x9_drawn (by decide +kernel)) rfl rfl (G_callV (b0 := 0) (nx := 58) (T := TX1) (ci := 1) (g_Fn_of rfl h_x1_endsAfter) (cw_9_116) ⟨wd2_205, wd2_206⟩ ⟨rfl, rfl⟩ ⟨by decide, by show 2 ≤ 21; decide⟩ (Nat.zero_le _) (rec_x1_endsAfter _) (dc182 (x := 0) (y := 116) bs_x9_drawn (by decide +kernel) rfl) rfl (G_ifeq (off := 7) (tg := 65) (nf := 61) (dc153 (x := 0) (y := 7) bs_x9_drawn (by decide +kernel) (by decide +kernel)) (by decide +kernel) rfl
      (G_ic (n := 0) (nx := 66) (dc3 bs_x9_drawn (by decide +kernel)) icv_0 rfl (G_iret rfl (dc172 bs_x9_drawn (by decide +kernel))))
      (G_ic (n := 1) (nx := 62) (dc4 bs_x9_drawn (by decide +kernel)) icv_1 rfl (G_goto (off := 4) (nx := 66) (dc167 (x := 0) (y := 4) bs_x9_drawn (by decide +kernel) (by decide +kernel)) (by decide +kernel) (G_iret rfl (dc172 bs_x9_drawn (by decide +kernel))))))))))⟩, List.forall_mem_cons.mpr ⟨⟨53, 67, by decide +kernel, by decide +kernel, by decide +kernel, by decide +kernel,
    (G_ldAn (n := 0) (nx := 68) (dc42 bs_x9_drawn (by decide +kernel)) rfl rfl (G_getRc (nx := 71) fl_9_29 rf_9_3 (dc180 (x := 0) (y := 29) bs_x9_drawn (by decide +kernel) rfl) rfl (G_ldIn (n := 1) (nx := 72) (dc27 bs_x9_drawn (by decide +kernel)) rfl rfl (G_callV (b0 := 0) (nx := 75) (T := TX1) (ci := 1) (g_Fn_of rfl h_x1_isSplit) (cw_9_119) ⟨wd2_210, wd2_211⟩ ⟨rfl, rfl⟩ ⟨by decide, by show 2 ≤ 21; decide⟩ (Nat.zero_le _) (rec_x1_isSplit _) (dc182 (x := 0) (y := 119) bs_x9_drawn (by decide +kernel) rfl) rfl (G_ifeq (off := 7) (tg := 82) (nf := 78) (dc153 (x := 0) (y := 7) bs_x9_drawn (by decide +kernel) (by decide +kernel)) (by decide +kernel) rfl
      (G_ic (n := 0) (nx := 83) (dc3 bs_x9_drawn (by decide +kernel)) icv_0 rfl (G_iret rfl (dc172 bs_x9_drawn (by decide +kernel))))
      (G_ic (n := 1) (nx := 79) (dc4 bs_x9_drawn (by decide +kernel)) icv_1 rfl (G_goto (off := 4) (nx := 83) (dc167 (x := 0) (y := 4) bs_x9_drawn (by decide +kernel) (by decide +kernel)) (by decide +kernel) (G_iret rfl (dc172 bs_x9_drawn (by decide +kernel))))))))))⟩, fun _ h => absurd h List.not_mem_nil⟩⟩⟩)
    (g_swall _ (by decide +kernel) rfl)
    (G_ic (n := -1) (nx := 85) (dc2 bs_x9_drawn (by decide +kernel)) icv_m1 rfl (G_iret rfl (dc172 bs_x9_drawn (by decide +kernel)))))))))))
    exact ht _ _ σ q ((e_x9_drawn x1_has x1_endsAfter x1_isSplit σ l1 l2).symm.trans e1)
  exact g_meth (σ' := q.1) (v := some (.inl q.2)) (by decide) rfl hw hwf hok (Nat.le_of_ble_eq_true rfl) hGo (fun σ2 v2 h => retI_inv h) (by exact e2)

set_option maxRecDepth 100000 in
set_option maxHeartbeats 4000000 in
theorem h_x9_image : g_Ft M_x9_image yX9_image 2 (FW_x9_image x9_image) := by
  intro l w hw σ as hlen hwf hok ρ k r e
  unfold FW_x9_image at e
  obtain ⟨hh0, e⟩ := p_C_inv e
  obtain ⟨l1, hh1, e⟩ := p_I_inv e
  have e := p_E_inv e
  obtain ⟨q, e1, e2⟩ := Option.bind_eq_some_iff.mp e
  have has : as = [.inr (.inr (some (9, 0))), .inl l1] := g_as2 hlen hh0 hh1
  subst has
  have hGo : g_Go M_x9_image retI (me M_x9_image) 0 (g_loc [.inr (.inr (some (9, 0))), .inl l1] (ml M_x9_image)) [] σ q := by
    have ht : g_Gd M_x9_image retI (me M_x9_image) 0 (t_x9_image x9_refuse x1_copyFrom x9_answer) := (G_ldIn (n := 1) (nx := 1) (dc27 bs_x9_image (by decide +kernel)) rfl rfl (G_iflt (off := 8) (tg := 9) (nf := 4) (dc155 (x := 0) (y := 8) bs_x9_image (by decide +kernel) (by decide +kernel)) (by decide +kernel) rfl
  (G_ldAn (n := 0) (nx := 10) (dc42 bs_x9_image (by decide +kernel)) rfl rfl (G_ic (n := -1) (nx := 11) (dc2 bs_x9_image (by decide +kernel)) icv_m1 rfl (G_callV (b0 := 0) (nx := 14) (T := TX9) (ci := 9) (g_Fn_of rfl h_x9_refuse) (cw_9_84) ⟨wd2_186, sel_GalleyRoom_refuse__I_I⟩ ⟨rfl, rfl⟩ ⟨by decide, by show 3 ≤ 21; decide⟩ (Nat.zero_le _) (rec_x9_refuse _) (dc182 (x := 0) (y := 84) bs_x9_image (by decide +kernel) rfl) rfl (G_iret rfl (dc172 bs_x9_image (by decide +kernel))))))
  (G_ldIn (n := 1) (nx := 5) (dc27 bs_x9_image (by decide +kernel)) rfl rfl (G_ic (n := 2) (nx := 6) (dc5 bs_x9_image (by decide +kernel)) icv_2 rfl (G_icmplt (off := 9) (tg := 15) (nf := 9) (dc161 (x := 0) (y := 9) bs_x9_image (by decide +kernel) (by decide +kernel)) (by decide +kernel) rfl
    (G_ldAn (n := 0) (nx := 16) (dc42 bs_x9_image (by decide +kernel)) rfl rfl (G_getRc (nx := 19) fl_9_32 rf_9_4 (dc180 (x := 0) (y := 32) bs_x9_image (by decide +kernel) rfl) rfl (G_ldIn (n := 1) (nx := 20) (dc27 bs_x9_image (by decide +kernel)) rfl rfl (G_aaldG (nx := 21) (dc50 bs_x9_image (by decide +kernel)) rfl (G_ldAn (n := 0) (nx := 22) (dc42 bs_x9_image (by decide +kernel)) rfl rfl (G_getRc (nx := 25) fl_9_20 rf_9_1 (dc180 (x := 0) (y := 20) bs_x9_image (by decide +kernel) rfl) rfl (G_callV (b0 := 0) (nx := 28) (T := TX1) (ci := 1) (g_Fn_of rfl h_x1_copyFrom) (cw_9_257) ⟨wd4_21, wd4_22⟩ ⟨rfl, rfl⟩ ⟨by decide, by show 3 ≤ 21; decide⟩ (Nat.zero_le _) (rec_x1_copyFrom _) (dc182 (x := 1) (y := 1) bs_x9_image (by decide +kernel) rfl) rfl (G_ldAn (n := 0) (nx := 29) (dc42 bs_x9_image (by decide +kernel)) rfl rfl (G_getRc (nx := 32) fl_9_36 rf_9_5 (dc180 (x := 0) (y := 36) bs_x9_image (by decide +kernel) rfl) rfl (G_ldIn (n := 1) (nx := 33) (dc27 bs_x9_image (by decide +kernel)) rfl rfl (G_ic (n := 1) (nx := 34) (dc4 bs_x9_image (by decide +kernel)) icv_1 rfl (G_zast (nx := 35) ak_38 (by decide) (dc84 bs_x9_image (by decide +kernel)) rfl (G_ldAn (n := 0) (nx := 36) (dc42 bs_x9_image (by decide +kernel)) rfl rfl (G_ic (n := 0) (nx := 37) (dc3 bs_x9_image (by decide +kernel)) icv_0 rfl (G_callV (b0 := 0) (nx := 40) (T := TX9) (ci := 9) (g_Fn_of rfl h_x9_answer) (cw_9_100) ⟨wd2_194, sel_GalleyRoom_answer__I_I⟩ ⟨rfl, rfl⟩ ⟨by decide, by show 2 ≤ 21; decide⟩ (Nat.zero_le _) (rec_x9_answer _) (dc182 (x := 0) (y := 100) bs_x9_image (by decide +kernel) rfl) rfl (G_iret rfl (dc172 bs_x9_image (by decide +kernel))))))))))))))))))
    (G_ldAn (n := 0) (nx := 10) (dc42 bs_x9_image (by decide +kernel)) rfl rfl (G_ic (n := -1) (nx := 11) (dc2 bs_x9_image (by decide +kernel)) icv_m1 rfl (G_callV (b0 := 0) (nx := 14) (T := TX9) (ci := 9) (g_Fn_of rfl h_x9_refuse) (cw_9_84) ⟨wd2_186, sel_GalleyRoom_refuse__I_I⟩ ⟨rfl, rfl⟩ ⟨by decide, by show 3 ≤ 21; decide⟩ (Nat.zero_le _) (rec_x9_refuse _) (dc182 (x := 0) (y := 84) bs_x9_image (by decide +kernel) rfl) rfl (G_iret rfl (dc172 bs_x9_image (by decide +kernel)))))))))))
    exact ht _ _ σ q ((e_x9_image x9_refuse x1_copyFrom x9_answer σ l1).symm.trans e1)
  exact g_meth (σ' := q.1) (v := some (.inl q.2)) (by decide) rfl hw hwf hok (Nat.le_of_ble_eq_true rfl) hGo (fun σ2 v2 h => retI_inv h) (by exact e2)

set_option maxRecDepth 100000 in
set_option maxHeartbeats 4000000 in
theorem h_x9_back : g_Ft M_x9_back yX9_back 2 (FW_x9_back x9_back) := by
  intro l w hw σ as hlen hwf hok ρ k r e
  unfold FW_x9_back at e
  obtain ⟨hh0, e⟩ := p_C_inv e
  obtain ⟨l1, hh1, e⟩ := p_I_inv e
  have e := p_E_inv e
  obtain ⟨q, e1, e2⟩ := Option.bind_eq_some_iff.mp e
  have has : as = [.inr (.inr (some (9, 0))), .inl l1] := g_as2 hlen hh0 hh1
  subst has
  have hGo : g_Go M_x9_back retI (me M_x9_back) 0 (g_loc [.inr (.inr (some (9, 0))), .inl l1] (ml M_x9_back)) [] σ q := by
    have ht : g_Gd M_x9_back retI (me M_x9_back) 0 (t_x9_back x9_refuse x1_copyFrom x9_answer) := (G_ldIn (n := 1) (nx := 1) (dc27 bs_x9_back (by decide +kernel)) rfl rfl (G_iflt (off := 8) (tg := 9) (nf := 4) (dc155 (x := 0) (y := 8) bs_x9_back (by decide +kernel) (by decide +kernel)) (by decide +kernel) rfl
  (G_ldAn (n := 0) (nx := 10) (dc42 bs_x9_back (by decide +kernel)) rfl rfl (G_ic (n := -1) (nx := 11) (dc2 bs_x9_back (by decide +kernel)) icv_m1 rfl (G_callV (b0 := 0) (nx := 14) (T := TX9) (ci := 9) (g_Fn_of rfl h_x9_refuse) (cw_9_84) ⟨wd2_186, sel_GalleyRoom_refuse__I_I⟩ ⟨rfl, rfl⟩ ⟨by decide, by show 3 ≤ 21; decide⟩ (Nat.zero_le _) (rec_x9_refuse _) (dc182 (x := 0) (y := 84) bs_x9_back (by decide +kernel) rfl) rfl (G_iret rfl (dc172 bs_x9_back (by decide +kernel))))))
  (G_ldIn (n := 1) (nx := 5) (dc27 bs_x9_back (by decide +kernel)) rfl rfl (G_ic (n := 2) (nx := 6) (dc5 bs_x9_back (by decide +kernel)) icv_2 rfl (G_icmplt (off := 9) (tg := 15) (nf := 9) (dc161 (x := 0) (y := 9) bs_x9_back (by decide +kernel) (by decide +kernel)) (by decide +kernel) rfl
    (G_ldAn (n := 0) (nx := 16) (dc42 bs_x9_back (by decide +kernel)) rfl rfl (G_getRc (nx := 19) fl_9_36 rf_9_5 (dc180 (x := 0) (y := 36) bs_x9_back (by decide +kernel) rfl) rfl (G_ldIn (n := 1) (nx := 20) (dc27 bs_x9_back (by decide +kernel)) rfl rfl (G_zald (nx := 21) ak_38 (dc51 bs_x9_back (by decide +kernel)) rfl (G_ifne (off := 10) (tg := 31) (nf := 24) (dc154 (x := 0) (y := 10) bs_x9_back (by decide +kernel) (by decide +kernel)) (by decide +kernel) rfl
      (G_ldAn (n := 0) (nx := 25) (dc42 bs_x9_back (by decide +kernel)) rfl rfl (G_bi (n := -2) (nx := 27) (dc16 (x := 254) bs_x9_back (by decide +kernel) (by decide +kernel)) biv_m2 rfl (G_callV (b0 := 0) (nx := 30) (T := TX9) (ci := 9) (g_Fn_of rfl h_x9_refuse) (cw_9_84) ⟨wd2_186, sel_GalleyRoom_refuse__I_I⟩ ⟨rfl, rfl⟩ ⟨by decide, by show 3 ≤ 21; decide⟩ (Nat.zero_le _) (rec_x9_refuse _) (dc182 (x := 0) (y := 84) bs_x9_back (by decide +kernel) rfl) rfl (G_iret rfl (dc172 bs_x9_back (by decide +kernel))))))
      (G_ldAn (n := 0) (nx := 32) (dc42 bs_x9_back (by decide +kernel)) rfl rfl (G_getRc (nx := 35) fl_9_20 rf_9_1 (dc180 (x := 0) (y := 20) bs_x9_back (by decide +kernel) rfl) rfl (G_ldAn (n := 0) (nx := 36) (dc42 bs_x9_back (by decide +kernel)) rfl rfl (G_getRc (nx := 39) fl_9_32 rf_9_4 (dc180 (x := 0) (y := 32) bs_x9_back (by decide +kernel) rfl) rfl (G_ldIn (n := 1) (nx := 40) (dc27 bs_x9_back (by decide +kernel)) rfl rfl (G_aaldG (nx := 41) (dc50 bs_x9_back (by decide +kernel)) rfl (G_callV (b0 := 0) (nx := 44) (T := TX1) (ci := 1) (g_Fn_of rfl h_x1_copyFrom) (cw_9_257) ⟨wd4_21, wd4_22⟩ ⟨rfl, rfl⟩ ⟨by decide, by show 3 ≤ 21; decide⟩ (Nat.zero_le _) (rec_x1_copyFrom _) (dc182 (x := 1) (y := 1) bs_x9_back (by decide +kernel) rfl) rfl (G_ldAn (n := 0) (nx := 45) (dc42 bs_x9_back (by decide +kernel)) rfl rfl (G_getRc (nx := 48) fl_9_55 rf_9_8 (dc180 (x := 0) (y := 55) bs_x9_back (by decide +kernel) rfl) rfl (G_ic (n := 0) (nx := 49) (dc3 bs_x9_back (by decide +kernel)) icv_0 rfl (G_putI (nx := 52) fp_9_95 rfl (dc181 (x := 0) (y := 95) bs_x9_back (by decide +kernel) rfl) rfl (G_ldAn (n := 0) (nx := 53) (dc42 bs_x9_back (by decide +kernel)) rfl rfl (G_ic (n := 0) (nx := 54) (dc3 bs_x9_back (by decide +kernel)) icv_0 rfl (G_callV (b0 := 0) (nx := 57) (T := TX9) (ci := 9) (g_Fn_of rfl h_x9_answer) (cw_9_100) ⟨wd2_194, sel_GalleyRoom_answer__I_I⟩ ⟨rfl, rfl⟩ ⟨by decide, by show 2 ≤ 21; decide⟩ (Nat.zero_le _) (rec_x9_answer _) (dc182 (x := 0) (y := 100) bs_x9_back (by decide +kernel) rfl) rfl (G_iret rfl (dc172 bs_x9_back (by decide +kernel))))))))))))))))))))))
    (G_ldAn (n := 0) (nx := 10) (dc42 bs_x9_back (by decide +kernel)) rfl rfl (G_ic (n := -1) (nx := 11) (dc2 bs_x9_back (by decide +kernel)) icv_m1 rfl (G_callV (b0 := 0) (nx := 14) (T := TX9) (ci := 9) (g_Fn_of rfl h_x9_refuse) (cw_9_84) ⟨wd2_186, sel_GalleyRoom_refuse__I_I⟩ ⟨rfl, rfl⟩ ⟨by decide, by show 3 ≤ 21; decide⟩ (Nat.zero_le _) (rec_x9_refuse _) (dc182 (x := 0) (y := 84) bs_x9_back (by decide +kernel) rfl) rfl (G_iret rfl (dc172 bs_x9_back (by decide +kernel)))))))))))
    exact ht _ _ σ q ((e_x9_back x9_refuse x1_copyFrom x9_answer σ l1).symm.trans e1)
  exact g_meth (σ' := q.1) (v := some (.inl q.2)) (by decide) rfl hw hwf hok (Nat.le_of_ble_eq_true rfl) hGo (fun σ2 v2 h => retI_inv h) (by exact e2)

set_option maxRecDepth 100000 in
set_option maxHeartbeats 4000000 in
theorem B_x9_count_b47 (s : Sg) (l1 : Int32) (r : (Sg × Int32)) (h : x9_count_b47 s l1 = some r) : g_Go M_x9_count retI 0 47 [some (.inr (.inr (some (9, 0)))), some (.inl l1)] [] s r := by
  have ht : g_Gd M_x9_count retI 0 47 (t_x9_count_b47 x7_readSetting x7_howManyFit) := (G_ldIn (n := 1) (nx := 48) (dc27 bs_x9_count (by decide +kernel)) rfl rfl (G_sw (dflt := 144) (lo := 0) (hi := 12) (offs := #[68, 76, 95, 107, 115, 123, 131, 144, 144, 144, 144, 144, 136]) (len := 68) (td := 192) (by decide +kernel) (by decide +kernel)
    (List.forall_mem_cons.mpr ⟨⟨68, 116, by decide +kernel, by decide +kernel, by decide +kernel, by decide +kernel,
    (G_ldAn (n := 0) (nx := 117) (dc42 bs_x9_count (by decide +kernel)) rfl rfl (G_getRc (nx := 120) fl_9_20 rf_9_1 (dc180 (x := 0) (y := 20) bs_x9_count (by decide +kernel) rfl) rfl (G_getI (nx := 123) fl_9_88 (Or.inl rfl) (dc180 (x := 0) (y := 88) bs_x9_count (by decide +kernel) rfl) rfl (G_iret rfl (dc172 bs_x9_count (by decide +kernel))))))⟩, List.forall_mem_cons.mpr ⟨⟨76, 124, by decide +kernel, by decide +kernel, by decide +kernel, by decide +kernel,
    (G_ldAn (n := 0) (nx := 125) (dc42 bs_x9_count (by decide +kernel)) rfl rfl (G_getRc (nx := 128) fl_9_60 rf_9_9 (dc180 (x := 0) (y := 60) bs_x9_count (by decide +kernel) rfl) rfl (G_ldAn (n := 0) (nx := 129) (dc42 bs_x9_count (by decide +kernel)) rfl rfl (G_getRc (nx := 132) fl_9_20 rf_9_1 (dc180 (x := 0) (y := 20) bs_x9_count (by decide +kernel) rfl) rfl (G_callV (b0 := 0) (nx := 135) (T := TX7) (ci := 7) (g_Fn_of rfl h_x7_readSetting) (cw_9_122) ⟨wd2_218, wd2_219⟩ ⟨rfl, rfl⟩ ⟨by decide, by show 4 ≤ 21; decide⟩ (Nat.zero_le _) (rec_x7_readSetting _) (dc182 (x := 0) (y := 122) bs_x9_count (by decide +kernel) rfl) rfl (G_ldAn (n := 0) (nx := 136) (dc42 bs_x9_count (by decide +kernel)) rfl rfl (G_getRc (nx := 139) fl_9_60 rf_9_9 (dc180 (x := 0) (y := 60) bs_x9_count (by decide +kernel) rfl) rfl (G_getI (nx := 142) fl_9_128 (Or.inl rfl) (dc180 (x := 0) (y := 128) bs_x9_count (by decide +kernel) rfl) rfl (G_iret rfl (dc172 bs_x9_count (by decide +kernel)))))))))))⟩, List.forall_mem_cons.mpr ⟨⟨95, 143, by decide +kernel, by decide +kernel, by decide +kernel, by decide +kernel,
    (G_ldAn (n := 0) (nx := 144) (dc42 bs_x9_count (by decide +kernel)) rfl rfl (G_getRc (nx := 147) fl_9_60 rf_9_9 (dc180 (x := 0) (y := 60) bs_x9_count (by decide +kernel) rfl) rfl (G_ldAn (n := 0) (nx := 148) (dc42 bs_x9_count (by decide +kernel)) rfl rfl (G_getRc (nx := 151) fl_9_20 rf_9_1 (dc180 (x := 0) (y := 20) bs_x9_count (by decide +kernel) rfl) rfl (G_callV (b0 := 0) (nx := 154) (T := TX7) (ci := 7) (g_Fn_of rfl h_x7_howManyFit) (cw_9_216) ⟨wd4_112, wd4_113⟩ ⟨rfl, rfl⟩ ⟨by decide, by show 2 ≤ 21; decide⟩ (Nat.zero_le _) (rec_x7_howManyFit _) (dc182 (x := 0) (y := 216) bs_x9_count (by decide +kernel) rfl) rfl (G_iret rfl (dc172 bs_x9_count (by decide +kernel))))))))⟩, List.forall_mem_cons.mpr ⟨⟨107, 155, by decide +kernel, by decide +kernel, by decide +kernel, by decide +kernel,
    (G_ldAn (n := 0) (nx := 156) (dc42 bs_x9_count (by decide +kernel)) rfl rfl (G_getRc (nx := 159) fl_9_20 rf_9_1 (dc180 (x := 0) (y := 20) bs_x9_count (by decide +kernel) rfl) rfl (G_getI (nx := 162) fl_9_269 (Or.inl rfl) (dc180 (x := 1) (y := 13) bs_x9_count (by decide +kernel) rfl) rfl (G_iret rfl (dc172 bs_x9_count (by decide +kernel))))))⟩, List.forall_mem_cons.mpr ⟨⟨115, 163, by decide +kernel, by decide +kernel, by decide +kernel, by decide +kernel,
    (G_ldAn (n := 0) (nx := 164) (dc42 bs_x9_count (by decide +kernel)) rfl rfl (G_getRc (nx := 167) fl_9_20 rf_9_1 (dc180 (x := 0) (y := 20) bs_x9_count (by decide +kernel) rfl) rfl (G_getI (nx := 170) fl_9_160 (Or.inl rfl) (dc180 (x := 0) (y := 160) bs_x9_count (by decide +kernel) rfl) rfl (G_iret rfl (dc172 bs_x9_count (by decide +kernel))))))⟩, List.forall_mem_cons.mpr ⟨⟨123, 171, by decide +kernel, by decide +kernel, by decide +kernel, by decide +kernel,
    (G_ldAn (n := 0) (nx := 172) (dc42 bs_x9_count (by decide +kernel)) rfl rfl (G_getRc (nx := 175) fl_9_55 rf_9_8 (dc180 (x := 0) (y := 55) bs_x9_count (by decide +kernel) rfl) rfl (G_getI (nx := 178) fl_9_95 (Or.inl rfl) (dc180 (x := 0) (y := 95) bs_x9_count (by decide +kernel) rfl) rfl (G_iret rfl (dc172 bs_x9_count (by decide +kernel))))))⟩, List.forall_mem_cons.mpr ⟨⟨131, 179, by decide +kernel, by decide +kernel, by decide +kernel, by decide +kernel,
    (G_ldAn (n := 0) (nx := 180) (dc42 bs_x9_count (by decide +kernel)) rfl rfl (G_getI (nx := 183) fl_9_147 (Or.inl rfl) (dc180 (x := 0) (y := 147) bs_x9_count (by decide +kernel) rfl) rfl (G_iret rfl (dc172 bs_x9_count (by decide +kernel)))))⟩, List.forall_mem_cons.mpr ⟨⟨144, 192, by decide +kernel, by decide +kernel, by decide +kernel, by decide +kernel,
    (G_ic (n := -1) (nx := 193) (dc2 bs_x9_count (by decide +kernel)) icv_m1 rfl (G_iret rfl (dc172 bs_x9_count (by decide +kernel))))⟩, List.forall_mem_cons.mpr ⟨⟨144, 192, by decide +kernel, by decide +kernel, by decide +kernel, by decide +kernel,
    (G_ic (n := -1) (nx := 193) (dc2 bs_x9_count (by decide +kernel)) icv_m1 rfl (G_iret rfl (dc172 bs_x9_count (by decide +kernel))))⟩, List.forall_mem_cons.mpr ⟨⟨144, 192, by decide +kernel, by decide +kernel, by decide +kernel, by decide +kernel,
    (G_ic (n := -1) (nx := 193) (dc2 bs_x9_count (by decide +kernel)) icv_m1 rfl (G_iret rfl (dc172 bs_x9_count (by decide +kernel))))⟩, List.forall_mem_cons.mpr ⟨⟨144, 192, by decide +kernel, by decide +kernel, by decide +kernel, by decide +kernel,
    (G_ic (n := -1) (nx := 193) (dc2 bs_x9_count (by decide +kernel)) icv_m1 rfl (G_iret rfl (dc172 bs_x9_count (by decide +kernel))))⟩, List.forall_mem_cons.mpr ⟨⟨144, 192, by decide +kernel, by decide +kernel, by decide +kernel, by decide +kernel,
    (G_ic (n := -1) (nx := 193) (dc2 bs_x9_count (by decide +kernel)) icv_m1 rfl (G_iret rfl (dc172 bs_x9_count (by decide +kernel))))⟩, List.forall_mem_cons.mpr ⟨⟨136, 184, by decide +kernel, by decide +kernel, by decide +kernel, by decide +kernel,
    (G_ldAn (n := 0) (nx := 185) (dc42 bs_x9_count (by decide +kernel)) rfl rfl (G_getRc (nx := 188) fl_9_20 rf_9_1 (dc180 (x := 0) (y := 20) bs_x9_count (by decide +kernel) rfl) rfl (G_getI (nx := 191) fl_9_206 (Or.inl rfl) (dc180 (x := 0) (y := 206) bs_x9_count (by decide +kernel) rfl) rfl (G_iret rfl (dc172 bs_x9_count (by decide +kernel))))))⟩, fun _ h => absurd h List.not_mem_nil⟩⟩⟩⟩⟩⟩⟩⟩⟩⟩⟩⟩⟩)
    (g_swall _ (by decide +kernel) rfl)
    (G_ic (n := -1) (nx := 193) (dc2 bs_x9_count (by decide +kernel)) icv_m1 rfl (G_iret rfl (dc172 bs_x9_count (by decide +kernel))))))
  exact ht _ _ s r ((e_x9_count_b47 x7_readSetting x7_howManyFit s l1).symm.trans h)

set_option maxRecDepth 100000 in
set_option maxHeartbeats 4000000 in
theorem h_x9_count : g_Ft M_x9_count yX9_count 2 (FW_x9_count x9_count) := by
  intro l w hw σ as hlen hwf hok ρ k r e
  unfold FW_x9_count at e
  obtain ⟨hh0, e⟩ := p_C_inv e
  obtain ⟨l1, hh1, e⟩ := p_I_inv e
  have e := p_E_inv e
  obtain ⟨q, e1, e2⟩ := Option.bind_eq_some_iff.mp e
  have has : as = [.inr (.inr (some (9, 0))), .inl l1] := g_as2 hlen hh0 hh1
  subst has
  have hGo : g_Go M_x9_count retI (me M_x9_count) 0 (g_loc [.inr (.inr (some (9, 0))), .inl l1] (ml M_x9_count)) [] σ q := by
    have ht : g_Gd M_x9_count retI (me M_x9_count) 0 (t_x9_count (x9_count_b47)) := (G_ldIn (n := 1) (nx := 1) (dc27 bs_x9_count (by decide +kernel)) rfl rfl (G_bi (n := 7) (nx := 3) (dc16 (x := 7) bs_x9_count (by decide +kernel) (by decide +kernel)) biv_7 rfl (G_icmplt (off := 19) (tg := 22) (nf := 6) (dc161 (x := 0) (y := 19) bs_x9_count (by decide +kernel) (by decide +kernel)) (by decide +kernel) rfl
  (G_ldIn (n := 1) (nx := 23) (dc27 bs_x9_count (by decide +kernel)) rfl rfl (G_bi (n := 13) (nx := 25) (dc16 (x := 13) bs_x9_count (by decide +kernel) (by decide +kernel)) biv_13 rfl (G_icmplt (off := 22) (tg := 47) (nf := 28) (dc161 (x := 0) (y := 22) bs_x9_count (by decide +kernel) (by decide +kernel)) (by decide +kernel) rfl
    (G_lbl (Gp_C <| Gp_I fun a1 => Gp_E fun s r h => B_x9_count_b47 s a1 r h))
    (G_ldIn (n := 1) (nx := 29) (dc27 bs_x9_count (by decide +kernel)) rfl rfl (G_bi (n := 16) (nx := 31) (dc16 (x := 16) bs_x9_count (by decide +kernel) (by decide +kernel)) biv_16 rfl (G_icmpgt (off := 16) (tg := 47) (nf := 34) (dc163 (x := 0) (y := 16) bs_x9_count (by decide +kernel) (by decide +kernel)) (by decide +kernel) rfl
      (G_lbl (Gp_C <| Gp_I fun a1 => Gp_E fun s r h => B_x9_count_b47 s a1 r h))
      (G_ldAn (n := 0) (nx := 35) (dc42 bs_x9_count (by decide +kernel)) rfl rfl (G_getRc (nx := 38) fl_9_20 rf_9_1 (dc180 (x := 0) (y := 20) bs_x9_count (by decide +kernel) rfl) rfl (G_getRv (nx := 41) fl_9_144 rf_1_3 (dc180 (x := 0) (y := 144) bs_x9_count (by decide +kernel) rfl) rfl (G_ldIn (n := 1) (nx := 42) (dc27 bs_x9_count (by decide +kernel)) rfl rfl (G_bi (n := 13) (nx := 44) (dc16 (x := 13) bs_x9_count (by decide +kernel) (by decide +kernel)) biv_13 rfl (G_isub (nx := 45) (dc100 bs_x9_count (by decide +kernel)) rfl (G_iald (nx := 46) ak_15 (dc46 bs_x9_count (by decide +kernel)) rfl (G_iret rfl (dc172 bs_x9_count (by decide +kernel))))))))))))))))
  (G_ldIn (n := 1) (nx := 7) (dc27 bs_x9_count (by decide +kernel)) rfl rfl (G_bi (n := 11) (nx := 9) (dc16 (x := 11) bs_x9_count (by decide +kernel) (by decide +kernel)) biv_11 rfl (G_icmpgt (off := 13) (tg := 22) (nf := 12) (dc163 (x := 0) (y := 13) bs_x9_count (by decide +kernel) (by decide +kernel)) (by decide +kernel) rfl
    (G_ldIn (n := 1) (nx := 23) (dc27 bs_x9_count (by decide +kernel)) rfl rfl (G_bi (n := 13) (nx := 25) (dc16 (x := 13) bs_x9_count (by decide +kernel) (by decide +kernel)) biv_13 rfl (G_icmplt (off := 22) (tg := 47) (nf := 28) (dc161 (x := 0) (y := 22) bs_x9_count (by decide +kernel) (by decide +kernel)) (by decide +kernel) rfl
      (G_lbl (Gp_C <| Gp_I fun a1 => Gp_E fun s r h => B_x9_count_b47 s a1 r h))
      (G_ldIn (n := 1) (nx := 29) (dc27 bs_x9_count (by decide +kernel)) rfl rfl (G_bi (n := 16) (nx := 31) (dc16 (x := 16) bs_x9_count (by decide +kernel) (by decide +kernel)) biv_16 rfl (G_icmpgt (off := 16) (tg := 47) (nf := 34) (dc163 (x := 0) (y := 16) bs_x9_count (by decide +kernel) (by decide +kernel)) (by decide +kernel) rfl
        (G_lbl (Gp_C <| Gp_I fun a1 => Gp_E fun s r h => B_x9_count_b47 s a1 r h))
        (G_ldAn (n := 0) (nx := 35) (dc42 bs_x9_count (by decide +kernel)) rfl rfl (G_getRc (nx := 38) fl_9_20 rf_9_1 (dc180 (x := 0) (y := 20) bs_x9_count (by decide +kernel) rfl) rfl (G_getRv (nx := 41) fl_9_144 rf_1_3 (dc180 (x := 0) (y := 144) bs_x9_count (by decide +kernel) rfl) rfl (G_ldIn (n := 1) (nx := 42) (dc27 bs_x9_count (by decide +kernel)) rfl rfl (G_bi (n := 13) (nx := 44) (dc16 (x := 13) bs_x9_count (by decide +kernel) (by decide +kernel)) biv_13 rfl (G_isub (nx := 45) (dc100 bs_x9_count (by decide +kernel)) rfl (G_iald (nx := 46) ak_15 (dc46 bs_x9_count (by decide +kernel)) rfl (G_iret rfl (dc172 bs_x9_count (by decide +kernel))))))))))))))))
    (G_ldAn (n := 0) (nx := 13) (dc42 bs_x9_count (by decide +kernel)) rfl rfl (G_getRc (nx := 16) fl_9_72 rf_9_12 (dc180 (x := 0) (y := 72) bs_x9_count (by decide +kernel) rfl) rfl (G_ldIn (n := 1) (nx := 17) (dc27 bs_x9_count (by decide +kernel)) rfl rfl (G_bi (n := 7) (nx := 19) (dc16 (x := 7) bs_x9_count (by decide +kernel) (by decide +kernel)) biv_7 rfl (G_isub (nx := 20) (dc100 bs_x9_count (by decide +kernel)) rfl (G_iald (nx := 21) ak_41 (dc46 bs_x9_count (by decide +kernel)) rfl (G_iret rfl (dc172 bs_x9_count (by decide +kernel)))))))))))))))
    exact ht _ _ σ q ((e_x9_count (x9_count_b47) σ l1).symm.trans e1)
  exact g_meth (σ' := q.1) (v := some (.inl q.2)) (by decide) rfl hw hwf hok (Nat.le_of_ble_eq_true rfl) hGo (fun σ2 v2 h => retI_inv h) (by exact e2)

set_option maxRecDepth 100000 in
set_option maxHeartbeats 4000000 in
theorem h_x9_status : g_Ft M_x9_status yX9_status 1 (FW_x9_status x9_status) := by
  intro l w hw σ as hlen hwf hok ρ k r e
  unfold FW_x9_status at e
  obtain ⟨hh0, e⟩ := p_C_inv e
  have e := p_E_inv e
  obtain ⟨q, e1, e2⟩ := Option.bind_eq_some_iff.mp e
  have has : as = [.inr (.inr (some (9, 0)))] := g_as1 hlen hh0
  subst has
  have hGo : g_Go M_x9_status retI (me M_x9_status) 0 (g_loc [.inr (.inr (some (9, 0)))] (ml M_x9_status)) [] σ q := by
    have ht : g_Gd M_x9_status retI (me M_x9_status) 0 (t_x9_status) := (G_ldAn (n := 0) (nx := 1) (dc42 bs_x9_status (by decide +kernel)) rfl rfl (G_getI (nx := 4) fl_9_312 (Or.inl rfl) (dc180 (x := 1) (y := 56) bs_x9_status (by decide +kernel) rfl) rfl (G_iret rfl (dc172 bs_x9_status (by decide +kernel)))))
    exact ht _ _ σ q ((e_x9_status  σ ).symm.trans e1)
  exact g_meth (σ' := q.1) (v := some (.inl q.2)) (by decide) rfl hw hwf hok (Nat.le_of_ble_eq_true rfl) hGo (fun σ2 v2 h => retI_inv h) (by exact e2)

