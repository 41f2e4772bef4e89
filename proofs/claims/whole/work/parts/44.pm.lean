set_option maxRecDepth 100000 in
set_option maxHeartbeats 4000000 in
theorem h_m_takesSet : g_Ft M_m_takesSet yX10_takesSet 2 (FW_m_takesSet m_takesSet) := by
  intro l w hw σ as hlen hwf hok ρ k r e
  unfold FW_m_takesSet at e
  obtain ⟨hh0, e⟩ := p_C_inv e
  obtain ⟨l1, hh1, e⟩ := p_I_inv e
  have e := p_E_inv e
  obtain ⟨q, e1, e2⟩ := Option.bind_eq_some_iff.mp e
  have has : as = [.inr (.inr (some (10, 0))), .inl l1] := g_as2 hlen hh0 hh1
  subst has
  have hGo : g_Go M_m_takesSet retV (me M_m_takesSet) 0 (g_loc [.inr (.inr (some (10, 0))), .inl l1] (ml M_m_takesSet)) [] σ q := by
    have ht : g_Gd M_m_takesSet retV (me M_m_takesSet) 0 (t_m_takesSet m_takesLine) := (G_ldAn (n := 0) (nx := 1) (dc42 bs_m_takesSet (by decide +kernel)) rfl rfl (G_ldIn (n := 1) (nx := 2) (dc27 bs_m_takesSet (by decide +kernel)) rfl rfl (G_ldIn (n := 1) (nx := 3) (dc27 bs_m_takesSet (by decide +kernel)) rfl rfl (G_ifne (off := 7) (tg := 10) (nf := 6) (dc154 (x := 0) (y := 7) bs_m_takesSet (by decide +kernel) (by decide +kernel)) (by decide +kernel) rfl
  (G_ic (n := -1) (nx := 7) (dc2 bs_m_takesSet (by decide +kernel)) icv_m1 rfl (G_goto (off := 11) (nx := 18) (dc167 (x := 0) (y := 11) bs_m_takesSet (by decide +kernel) (by decide +kernel)) (by decide +kernel) (G_ldAn (n := 0) (nx := 19) (dc42 bs_m_takesSet (by decide +kernel)) rfl rfl (G_getRc (nx := 22) fl_10_75 rf_10_42 (dc180 (x := 0) (y := 75) bs_m_takesSet (by decide +kernel) rfl) rfl (G_ldIn (n := 1) (nx := 23) (dc27 bs_m_takesSet (by decide +kernel)) rfl rfl (G_iald (nx := 24) ak_58 (dc46 bs_m_takesSet (by decide +kernel)) rfl (G_ldAn (n := 0) (nx := 25) (dc42 bs_m_takesSet (by decide +kernel)) rfl rfl (G_getRc (nx := 28) fl_10_24 rf_10_2 (dc180 (x := 0) (y := 24) bs_m_takesSet (by decide +kernel) rfl) rfl (G_bi (n := 53) (nx := 30) (dc16 (x := 53) bs_m_takesSet (by decide +kernel) (by decide +kernel)) biv_53 rfl (G_iald (nx := 31) ak_43 (dc46 bs_m_takesSet (by decide +kernel)) rfl (G_callV (b0 := 0) (nx := 34) (T := TX10) (ci := 10) (g_Fn_of rfl h_m_takesLine) (cw_10_406) ⟨wd7_36, sel_GalleyRoomModel_takesLine__IIII_V⟩ ⟨rfl, rfl⟩ ⟨by decide, by show 7 ≤ 21; decide⟩ (Nat.zero_le _) (rec_m_takesLine _) (dc182 (x := 1) (y := 150) bs_m_takesSet (by decide +kernel) rfl) rfl (G_vret rfl (dc177 bs_m_takesSet (by decide +kernel))))))))))))))
  (G_ldAn (n := 0) (nx := 11) (dc42 bs_m_takesSet (by decide +kernel)) rfl rfl (G_getRc (nx := 14) fl_10_75 rf_10_42 (dc180 (x := 0) (y := 75) bs_m_takesSet (by decide +kernel) rfl) rfl (G_ldIn (n := 1) (nx := 15) (dc27 bs_m_takesSet (by decide +kernel)) rfl rfl (G_ic (n := 1) (nx := 16) (dc4 bs_m_takesSet (by decide +kernel)) icv_1 rfl (G_isub (nx := 17) (dc100 bs_m_takesSet (by decide +kernel)) rfl (G_iald (nx := 18) ak_58 (dc46 bs_m_takesSet (by decide +kernel)) rfl (G_ldAn (n := 0) (nx := 19) (dc42 bs_m_takesSet (by decide +kernel)) rfl rfl (G_getRc (nx := 22) fl_10_75 rf_10_42 (dc180 (x := 0) (y := 75) bs_m_takesSet (by decide +kernel) rfl) rfl (G_ldIn (n := 1) (nx := 23) (dc27 bs_m_takesSet (by decide +kernel)) rfl rfl (G_iald (nx := 24) ak_58 (dc46 bs_m_takesSet (by decide +kernel)) rfl (G_ldAn (n := 0) (nx := 25) (dc42 bs_m_takesSet (by decide +kernel)) rfl rfl (G_getRc (nx := 28) fl_10_24 rf_10_2 (dc180 (x := 0) (y := 24) bs_m_takesSet (by decide +kernel) rfl) rfl (G_bi (n := 53) (nx := 30) (dc16 (x := 53) bs_m_takesSet (by decide +kernel) (by decide +kernel)) biv_53 rfl (G_iald (nx := 31) ak_43 (dc46 bs_m_takesSet (by decide +kernel)) rfl (G_callV (b0 := 0) (nx := 34) (T := TX10) (ci := 10) (g_Fn_of rfl h_m_takesLine) (cw_10_406) ⟨wd7_36, sel_GalleyRoomModel_takesLine__IIII_V⟩ ⟨rfl, rfl⟩ ⟨by decide, by show 7 ≤ 21; decide⟩ (Nat.zero_le _) (rec_m_takesLine _) (dc182 (x := 1) (y := 150) bs_m_takesSet (by decide +kernel) rfl) rfl (G_vret rfl (dc177 bs_m_takesSet (by decide +kernel))))))))))))))))))))))
    exact ht _ _ σ q ((e_m_takesSet m_takesLine σ l1).symm.trans e1)
  exact g_meth (σ' := q) (v := none) (by decide) rfl hw hwf hok (Nat.le_of_ble_eq_true rfl) hGo (fun σ2 v2 h => retV_inv h) (by exact e2)

set_option maxRecDepth 100000 in
set_option maxHeartbeats 4000000 in
theorem h_m_line : g_Ft M_m_line yX10_line 3 (FW_m_line m_line) := by
  intro l w hw σ as hlen hwf hok ρ k r e
  unfold FW_m_line at e
  obtain ⟨hh0, e⟩ := p_C_inv e
  obtain ⟨l1, hh1, e⟩ := p_I_inv e
  obtain ⟨l2, hh2, e⟩ := p_I_inv e
  have e := p_E_inv e
  obtain ⟨q, e1, e2⟩ := Option.bind_eq_some_iff.mp e
  have has : as = [.inr (.inr (some (10, 0))), .inl l1, .inl l2] := g_as3 hlen hh0 hh1 hh2
  subst has
  have hGo : g_Go M_m_line retI (me M_m_line) 0 (g_loc [.inr (.inr (some (10, 0))), .inl l1, .inl l2] (ml M_m_line)) [] σ q := by
    have ht : g_Gd M_m_line retI (me M_m_line) 0 (t_m_line m_laysSetting m_lies m_takesSet m_costsNow m_paysNow m_isBarred m_fitsNow) := (G_ldAn (n := 0) (nx := 1) (dc42 bs_m_line (by decide +kernel)) rfl rfl (G_callV (b0 := 0) (nx := 4) (T := TX10) (ci := 10) (g_Fn_of rfl h_m_laysSetting) (cw_10_410) ⟨wd7_28, sel_GalleyRoomModel_laysSetting___V⟩ ⟨rfl, rfl⟩ ⟨by decide, by show 2 ≤ 21; decide⟩ (Nat.zero_le _) (rec_m_laysSetting _) (dc182 (x := 1) (y := 154) bs_m_line (by decide +kernel) rfl) rfl (G_ldIn (n := 1) (nx := 5) (dc27 bs_m_line (by decide +kernel)) rfl rfl (G_ic (n := 0) (nx := 6) (dc3 bs_m_line (by decide +kernel)) icv_0 rfl (G_ldAn (n := 0) (nx := 7) (dc42 bs_m_line (by decide +kernel)) rfl rfl (G_getI (nx := 10) fl_10_403 (Or.inl rfl) (dc180 (x := 1) (y := 147) bs_m_line (by decide +kernel) rfl) rfl (G_ic (n := 1) (nx := 11) (dc4 bs_m_line (by decide +kernel)) icv_1 rfl (G_isub (nx := 12) (dc100 bs_m_line (by decide +kernel)) rfl (G_callS (b0 := 0) (nx := 15) (g_Fn_of rfl h_m_lies) (cw_10_132) wd6_74 rfl ⟨by decide, by show 3 ≤ 21; decide⟩ (Nat.zero_le _) (dc184 (x := 0) (y := 132) bs_m_line (by decide +kernel) rfl) rfl (G_ifne (off := 5) (tg := 20) (nf := 18) (dc154 (x := 0) (y := 5) bs_m_line (by decide +kernel) (by decide +kernel)) (by decide +kernel) rfl
  (G_ic (n := -1) (nx := 19) (dc2 bs_m_line (by decide +kernel)) icv_m1 rfl (G_iret rfl (dc172 bs_m_line (by decide +kernel))))
  (G_ldAn (n := 0) (nx := 21) (dc42 bs_m_line (by decide +kernel)) rfl rfl (G_ldIn (n := 1) (nx := 22) (dc27 bs_m_line (by decide +kernel)) rfl rfl (G_callV (b0 := 0) (nx := 25) (T := TX10) (ci := 10) (g_Fn_of rfl h_m_takesSet) (cw_10_413) ⟨wd7_32, sel_GalleyRoomModel_takesSet__I_V⟩ ⟨rfl, rfl⟩ ⟨by decide, by show 2 ≤ 21; decide⟩ (Nat.zero_le _) (rec_m_takesSet _) (dc182 (x := 1) (y := 157) bs_m_line (by decide +kernel) rfl) rfl (G_ldIn (n := 2) (nx := 26) (dc28 bs_m_line (by decide +kernel)) rfl rfl (G_sw (dflt := 95) (lo := 0) (hi := 6) (offs := #[42, 49, 54, 59, 64, 69, 82]) (len := 42) (td := 121) (by decide +kernel) (by decide +kernel)
    (List.forall_mem_cons.mpr ⟨⟨42, 68, by decide +kernel, by decide +kernel, by decide +kernel, by decide +kernel,
    (G_ldAn (n := 0) (nx := 69) (dc42 bs_m_line (by decide +kernel)) rfl rfl (G_getRc (nx := 72) fl_10_75 rf_10_42 (dc180 (x := 0) (y := 75) bs_m_line (by decide +kernel) rfl) rfl (G_ldIn (n := 1) (nx := 73) (dc27 bs_m_line (by decide +kernel)) rfl rfl (G_iald (nx := 74) ak_58 (dc46 bs_m_line (by decide +kernel)) rfl (G_iret rfl (dc172 bs_m_line (by decide +kernel)))))))⟩, List.forall_mem_cons.mpr ⟨⟨49, 75, by decide +kernel, by decide +kernel, by decide +kernel, by decide +kernel,
    (G_ldAn (n := 0) (nx := 76) (dc42 bs_m_line (by decide +kernel)) rfl rfl (G_getI (nx := 79) fl_10_363 (Or.inl rfl) (dc180 (x := 1) (y := 107) bs_m_line (by decide +kernel) rfl) rfl (G_iret rfl (dc172 bs_m_line (by decide +kernel)))))⟩, List.forall_mem_cons.mpr ⟨⟨54, 80, by decide +kernel, by decide +kernel, by decide +kernel, by decide +kernel,
    (G_ldAn (n := 0) (nx := 81) (dc42 bs_m_line (by decide +kernel)) rfl rfl (G_getI (nx := 84) fl_10_366 (Or.inl rfl) (dc180 (x := 1) (y := 110) bs_m_line (by decide +kernel) rfl) rfl (G_iret rfl (dc172 bs_m_line (by decide +kernel)))))⟩, List.forall_mem_cons.mpr ⟨⟨59, 85, by decide +kernel, by decide +kernel, by decide +kernel, by decide +kernel,
    (G_ldAn (n := 0) (nx := 86) (dc42 bs_m_line (by decide +kernel)) rfl rfl (G_callV (b0 := 0) (nx := 89) (T := TX10) (ci := 10) (g_Fn_of rfl h_m_costsNow) (cw_10_416) ⟨wd7_47, sel_GalleyRoomModel_costsNow___I⟩ ⟨rfl, rfl⟩ ⟨by decide, by show 1 ≤ 21; decide⟩ (Nat.zero_le _) (rec_m_costsNow _) (dc182 (x := 1) (y := 160) bs_m_line (by decide +kernel) rfl) rfl (G_iret rfl (dc172 bs_m_line (by decide +kernel)))))⟩, List.forall_mem_cons.mpr ⟨⟨64, 90, by decide +kernel, by decide +kernel, by decide +kernel, by decide +kernel,
    (G_ldAn (n := 0) (nx := 91) (dc42 bs_m_line (by decide +kernel)) rfl rfl (G_callV (b0 := 0) (nx := 94) (T := TX10) (ci := 10) (g_Fn_of rfl h_m_paysNow) (cw_10_419) ⟨wd7_84, sel_GalleyRoomModel_paysNow___I⟩ ⟨rfl, rfl⟩ ⟨by decide, by show 1 ≤ 21; decide⟩ (Nat.zero_le _) (rec_m_paysNow _) (dc182 (x := 1) (y := 163) bs_m_line (by decide +kernel) rfl) rfl (G_iret rfl (dc172 bs_m_line (by decide +kernel)))))⟩, List.forall_mem_cons.mpr ⟨⟨69, 95, by decide +kernel, by decide +kernel, by decide +kernel, by decide +kernel,
    (G_ldAn (n := 0) (nx := 96) (dc42 bs_m_line (by decide +kernel)) rfl rfl (G_callV (b0 := 0) (nx := 99) (T := TX10) (ci := 10) (g_Fn_of rfl h_m_isBarred) (cw_10_400) ⟨wd7_88, sel_GalleyRoomModel_isBarred___Z⟩ ⟨rfl, rfl⟩ ⟨by decide, by show 1 ≤ 21; decide⟩ (Nat.zero_le _) (rec_m_isBarred _) (dc182 (x := 1) (y := 144) bs_m_line (by decide +kernel) rfl) rfl (G_ifeq (off := 7) (tg := 106) (nf := 102) (dc153 (x := 0) (y := 7) bs_m_line (by decide +kernel) (by decide +kernel)) (by decide +kernel) rfl
      (G_ic (n := 0) (nx := 107) (dc3 bs_m_line (by decide +kernel)) icv_0 rfl (G_iret rfl (dc172 bs_m_line (by decide +kernel))))
      (G_ic (n := 1) (nx := 103) (dc4 bs_m_line (by decide +kernel)) icv_1 rfl (G_goto (off := 4) (nx := 107) (dc167 (x := 0) (y := 4) bs_m_line (by decide +kernel) (by decide +kernel)) (by decide +kernel) (G_iret rfl (dc172 bs_m_line (by decide +kernel))))))))⟩, List.forall_mem_cons.mpr ⟨⟨82, 108, by decide +kernel, by decide +kernel, by decide +kernel, by decide +kernel,
    (G_ldAn (n := 0) (nx := 109) (dc42 bs_m_line (by decide +kernel)) rfl rfl (G_callV (b0 := 0) (nx := 112) (T := TX10) (ci := 10) (g_Fn_of rfl h_m_fitsNow) (cw_10_422) ⟨wd7_92, sel_GalleyRoomModel_fitsNow___Z⟩ ⟨rfl, rfl⟩ ⟨by decide, by show 1 ≤ 21; decide⟩ (Nat.zero_le _) (rec_m_fitsNow _) (dc182 (x := 1) (y := 166) bs_m_line (by decide +kernel) rfl) rfl (G_ifeq (off := 7) (tg := 119) (nf := 115) (dc153 (x := 0) (y := 7) bs_m_line (by decide +kernel) (by decide +kernel)) (by decide +kernel) rfl
      (G_ic (n := 0) (nx := 120) (dc3 bs_m_line (by decide +kernel)) icv_0 rfl (G_iret rfl (dc172 bs_m_line (by decide +kernel))))
      (G_ic (n := 1) (nx := 116) (dc4 bs_m_line (by decide +kernel)) icv_1 rfl (G_goto (off := 4) (nx := 120) (dc167 (x := 0) (y := 4) bs_m_line (by decide +kernel) (by decide +kernel)) (by decide +kernel) (G_iret rfl (dc172 bs_m_line (by decide +kernel))))))))⟩, fun _ h => absurd h List.not_mem_nil⟩⟩⟩⟩⟩⟩⟩)
    (g_swall _ (by decide +kernel) rfl)
    (G_ic (n := -1) (nx := 122) (dc2 bs_m_line (by decide +kernel)) icv_m1 rfl (G_iret rfl (dc172 bs_m_line (by decide +kernel)))))))))))))))))))
    exact ht _ _ σ q ((e_m_line m_laysSetting m_lies m_takesSet m_costsNow m_paysNow m_isBarred m_fitsNow σ l1 l2).symm.trans e1)
  exact g_meth (σ' := q.1) (v := some (.inl q.2)) (by decide) rfl hw hwf hok (Nat.le_of_ble_eq_true rfl) hGo (fun σ2 v2 h => retI_inv h) (by exact e2)

set_option maxRecDepth 100000 in
set_option maxHeartbeats 4000000 in
theorem B_m_allOf_b8 : ∀ (n : Nat) (s : Sg) (l1 : Int32) (l2 : Int32) (l3 : Int32) (r : (Sg × Int32)), m_allOf_b8 n s l1 l2 l3 = some r → g_Go M_m_allOf retI 0 8 [some (.inr (.inr (some (10, 0)))), some (.inl l1), some (.inl l2), some (.inl l3)] [] s r := by
  intro n
  induction n with
  | zero => intro s l1 l2 l3 r h; cases h
  | succ n hK8 =>
    intro s l1 l2 l3 r h
    have ht : g_Gd M_m_allOf retI 0 8 (t_m_allOf_b8 (m_allOf_b8 n) m_takesSet m_costsNow m_paysNow m_fitsNow) := (G_ldIn (n := 3) (nx := 9) (dc29 bs_m_allOf (by decide +kernel)) rfl rfl (G_ldAn (n := 0) (nx := 10) (dc42 bs_m_allOf (by decide +kernel)) rfl rfl (G_getI (nx := 13) fl_10_403 (Or.inl rfl) (dc180 (x := 1) (y := 147) bs_m_allOf (by decide +kernel) rfl) rfl (G_icmpge (off := 52) (tg := 65) (nf := 16) (dc162 (x := 0) (y := 52) bs_m_allOf (by decide +kernel) (by decide +kernel)) (by decide +kernel) rfl
    (G_ldAn (n := 0) (nx := 17) (dc42 bs_m_allOf (by decide +kernel)) rfl rfl (G_ldIn (n := 3) (nx := 18) (dc29 bs_m_allOf (by decide +kernel)) rfl rfl (G_callV (b0 := 0) (nx := 21) (T := TX10) (ci := 10) (g_Fn_of rfl h_m_takesSet) (cw_10_413) ⟨wd7_32, sel_GalleyRoomModel_takesSet__I_V⟩ ⟨rfl, rfl⟩ ⟨by decide, by show 2 ≤ 21; decide⟩ (Nat.zero_le _) (rec_m_takesSet _) (dc182 (x := 1) (y := 157) bs_m_allOf (by decide +kernel) rfl) rfl (G_ldIn (n := 2) (nx := 22) (dc28 bs_m_allOf (by decide +kernel)) rfl rfl (G_ldIn (n := 1) (nx := 23) (dc27 bs_m_allOf (by decide +kernel)) rfl rfl (G_ifne (off := 10) (tg := 33) (nf := 26) (dc154 (x := 0) (y := 10) bs_m_allOf (by decide +kernel) (by decide +kernel)) (by decide +kernel) rfl
      (G_ldAn (n := 0) (nx := 27) (dc42 bs_m_allOf (by decide +kernel)) rfl rfl (G_callV (b0 := 0) (nx := 30) (T := TX10) (ci := 10) (g_Fn_of rfl h_m_costsNow) (cw_10_416) ⟨wd7_47, sel_GalleyRoomModel_costsNow___I⟩ ⟨rfl, rfl⟩ ⟨by decide, by show 1 ≤ 21; decide⟩ (Nat.zero_le _) (rec_m_costsNow _) (dc182 (x := 1) (y := 160) bs_m_allOf (by decide +kernel) rfl) rfl (G_goto (off := 27) (nx := 57) (dc167 (x := 0) (y := 27) bs_m_allOf (by decide +kernel) (by decide +kernel)) (by decide +kernel) (G_iadd (nx := 58) (dc96 bs_m_allOf (by decide +kernel)) rfl (G_stIn (n := 2) (nx := 59) (by show 2 < 4; decide) (dc61 bs_m_allOf (by decide +kernel)) rfl rfl (G_inc (n := 1) (nx := 62) (by show 3 < 4; decide) (dc132 (x := 3) (y := 1) bs_m_allOf (by decide +kernel) (by decide +kernel)) icv_1 rfl (G_goto (off := -54) (nx := 8) (dc167 (x := 255) (y := 202) bs_m_allOf (by decide +kernel) (by decide +kernel)) (by decide +kernel) (G_lbl (Gp_C <| Gp_I fun a1 => Gp_I fun a2 => Gp_I fun a3 => Gp_E fun s r h => hK8 s a1 a2 a3 r h)))))))))
      (G_ldIn (n := 1) (nx := 34) (dc27 bs_m_allOf (by decide +kernel)) rfl rfl (G_ic (n := 1) (nx := 35) (dc4 bs_m_allOf (by decide +kernel)) icv_1 rfl (G_icmpne (off := 10) (tg := 45) (nf := 38) (dc160 (x := 0) (y := 10) bs_m_allOf (by decide +kernel) (by decide +kernel)) (by decide +kernel) rfl
        (G_ldAn (n := 0) (nx := 39) (dc42 bs_m_allOf (by decide +kernel)) rfl rfl (G_callV (b0 := 0) (nx := 42) (T := TX10) (ci := 10) (g_Fn_of rfl h_m_paysNow) (cw_10_419) ⟨wd7_84, sel_GalleyRoomModel_paysNow___I⟩ ⟨rfl, rfl⟩ ⟨by decide, by show 1 ≤ 21; decide⟩ (Nat.zero_le _) (rec_m_paysNow _) (dc182 (x := 1) (y := 163) bs_m_allOf (by decide +kernel) rfl) rfl (G_goto (off := 15) (nx := 57) (dc167 (x := 0) (y := 15) bs_m_allOf (by decide +kernel) (by decide +kernel)) (by decide +kernel) (G_iadd (nx := 58) (dc96 bs_m_allOf (by decide +kernel)) rfl (G_stIn (n := 2) (nx := 59) (by show 2 < 4; decide) (dc61 bs_m_allOf (by decide +kernel)) rfl rfl (G_inc (n := 1) (nx := 62) (by show 3 < 4; decide) (dc132 (x := 3) (y := 1) bs_m_allOf (by decide +kernel) (by decide +kernel)) icv_1 rfl (G_goto (off := -54) (nx := 8) (dc167 (x := 255) (y := 202) bs_m_allOf (by decide +kernel) (by decide +kernel)) (by decide +kernel) (G_lbl (Gp_C <| Gp_I fun a1 => Gp_I fun a2 => Gp_I fun a3 => Gp_E fun s r h => hK8 s a1 a2 a3 r h)))))))))
        (G_ldAn (n := 0) (nx := 46) (dc42 bs_m_allOf (by decide +kernel)) rfl rfl (G_callV (b0 := 0) (nx := 49) (T := TX10) (ci := 10) (g_Fn_of rfl h_m_fitsNow) (cw_10_422) ⟨wd7_92, sel_GalleyRoomModel_fitsNow___Z⟩ ⟨rfl, rfl⟩ ⟨by decide, by show 1 ≤ 21; decide⟩ (Nat.zero_le _) (rec_m_fitsNow _) (dc182 (x := 1) (y := 166) bs_m_allOf (by decide +kernel) rfl) rfl (G_ifeq (off := 7) (tg := 56) (nf := 52) (dc153 (x := 0) (y := 7) bs_m_allOf (by decide +kernel) (by decide +kernel)) (by decide +kernel) rfl
          (G_ic (n := 0) (nx := 57) (dc3 bs_m_allOf (by decide +kernel)) icv_0 rfl (G_iadd (nx := 58) (dc96 bs_m_allOf (by decide +kernel)) rfl (G_stIn (n := 2) (nx := 59) (by show 2 < 4; decide) (dc61 bs_m_allOf (by decide +kernel)) rfl rfl (G_inc (n := 1) (nx := 62) (by show 3 < 4; decide) (dc132 (x := 3) (y := 1) bs_m_allOf (by decide +kernel) (by decide +kernel)) icv_1 rfl (G_goto (off := -54) (nx := 8) (dc167 (x := 255) (y := 202) bs_m_allOf (by decide +kernel) (by decide +kernel)) (by decide +kernel) (G_lbl (Gp_C <| Gp_I fun a1 => Gp_I fun a2 => Gp_I fun a3 => Gp_E fun s r h => hK8 s a1 a2 a3 r h)))))))
          (G_ic (n := 1) (nx := 53) (dc4 bs_m_allOf (by decide +kernel)) icv_1 rfl (G_goto (off := 4) (nx := 57) (dc167 (x := 0) (y := 4) bs_m_allOf (by decide +kernel) (by decide +kernel)) (by decide +kernel) (G_iadd (nx := 58) (dc96 bs_m_allOf (by decide +kernel)) rfl (G_stIn (n := 2) (nx := 59) (by show 2 < 4; decide) (dc61 bs_m_allOf (by decide +kernel)) rfl rfl (G_inc (n := 1) (nx := 62) (by show 3 < 4; decide) (dc132 (x := 3) (y := 1) bs_m_allOf (by decide +kernel) (by decide +kernel)) icv_1 rfl (G_goto (off := -54) (nx := 8) (dc167 (x := 255) (y := 202) bs_m_allOf (by decide +kernel) (by decide +kernel)) (by decide +kernel) (G_lbl (Gp_C <| Gp_I fun a1 => Gp_I fun a2 => Gp_I fun a3 => Gp_E fun s r h => hK8 s a1 a2 a3 r h))))))))))))))))))))
    (G_ldIn (n := 2) (nx := 66) (dc28 bs_m_allOf (by decide +kernel)) rfl rfl (G_iret rfl (dc172 bs_m_allOf (by decide +kernel))))))))
    exact ht _ _ s r ((e_m_allOf_b8 (m_allOf_b8 n) m_takesSet m_costsNow m_paysNow m_fitsNow s l1 l2 l3).symm.trans h)

set_option maxRecDepth 100000 in
set_option maxHeartbeats 4000000 in
theorem h_m_allOf : g_Ft M_m_allOf yX10_allOf 2 (FW_m_allOf m_allOf) := by
  intro l w hw σ as hlen hwf hok ρ k r e
  unfold FW_m_allOf at e
  obtain ⟨hh0, e⟩ := p_C_inv e
  obtain ⟨l1, hh1, e⟩ := p_I_inv e
  have e := p_E_inv e
  obtain ⟨q, e1, e2⟩ := Option.bind_eq_some_iff.mp e
  have has : as = [.inr (.inr (some (10, 0))), .inl l1] := g_as2 hlen hh0 hh1
  subst has
  have hGo : g_Go M_m_allOf retI (me M_m_allOf) 0 (g_loc [.inr (.inr (some (10, 0))), .inl l1] (ml M_m_allOf)) [] σ q := by
    have ht : g_Gd M_m_allOf retI (me M_m_allOf) 0 (t_m_allOf (m_allOf_b8 FU) m_laysSetting) := (G_ldAn (n := 0) (nx := 1) (dc42 bs_m_allOf (by decide +kernel)) rfl rfl (G_callV (b0 := 0) (nx := 4) (T := TX10) (ci := 10) (g_Fn_of rfl h_m_laysSetting) (cw_10_410) ⟨wd7_28, sel_GalleyRoomModel_laysSetting___V⟩ ⟨rfl, rfl⟩ ⟨by decide, by show 2 ≤ 21; decide⟩ (Nat.zero_le _) (rec_m_laysSetting _) (dc182 (x := 1) (y := 154) bs_m_allOf (by decide +kernel) rfl) rfl (G_ic (n := 0) (nx := 5) (dc3 bs_m_allOf (by decide +kernel)) icv_0 rfl (G_stIn (n := 2) (nx := 6) (by show 2 < 4; decide) (dc61 bs_m_allOf (by decide +kernel)) rfl rfl (G_ic (n := 0) (nx := 7) (dc3 bs_m_allOf (by decide +kernel)) icv_0 rfl (G_stIn (n := 3) (nx := 8) (by show 3 < 4; decide) (dc62 bs_m_allOf (by decide +kernel)) rfl rfl (G_lbl (Gp_C <| Gp_I fun a1 => Gp_I fun a2 => Gp_I fun a3 => Gp_E fun s r h => B_m_allOf_b8 FU s a1 a2 a3 r h))))))))
    exact ht _ _ σ q ((e_m_allOf (m_allOf_b8 FU) m_laysSetting σ l1).symm.trans e1)
  exact g_meth (σ' := q.1) (v := some (.inl q.2)) (by decide) rfl hw hwf hok (Nat.le_of_ble_eq_true rfl) hGo (fun σ2 v2 h => retI_inv h) (by exact e2)

set_option maxRecDepth 100000 in
set_option maxHeartbeats 4000000 in
theorem h_m_all : g_Ft M_m_all yX10_all 2 (FW_m_all m_all) := by
  intro l w hw σ as hlen hwf hok ρ k r e
  unfold FW_m_all at e
  obtain ⟨hh0, e⟩ := p_C_inv e
  obtain ⟨l1, hh1, e⟩ := p_I_inv e
  have e := p_E_inv e
  obtain ⟨q, e1, e2⟩ := Option.bind_eq_some_iff.mp e
  have has : as = [.inr (.inr (some (10, 0))), .inl l1] := g_as2 hlen hh0 hh1
  subst has
  have hGo : g_Go M_m_all retI (me M_m_all) 0 (g_loc [.inr (.inr (some (10, 0))), .inl l1] (ml M_m_all)) [] σ q := by
    have ht : g_Gd M_m_all retI (me M_m_all) 0 (t_m_all m_lies m_allOf) := (G_ldIn (n := 1) (nx := 1) (dc27 bs_m_all (by decide +kernel)) rfl rfl (G_ic (n := 0) (nx := 2) (dc3 bs_m_all (by decide +kernel)) icv_0 rfl (G_ic (n := 2) (nx := 3) (dc5 bs_m_all (by decide +kernel)) icv_2 rfl (G_callS (b0 := 0) (nx := 6) (g_Fn_of rfl h_m_lies) (cw_10_132) wd6_74 rfl ⟨by decide, by show 3 ≤ 21; decide⟩ (Nat.zero_le _) (dc184 (x := 0) (y := 132) bs_m_all (by decide +kernel) rfl) rfl (G_ifeq (off := 11) (tg := 17) (nf := 9) (dc153 (x := 0) (y := 11) bs_m_all (by decide +kernel) (by decide +kernel)) (by decide +kernel) rfl
  (G_ic (n := -1) (nx := 18) (dc2 bs_m_all (by decide +kernel)) icv_m1 rfl (G_iret rfl (dc172 bs_m_all (by decide +kernel))))
  (G_ldAn (n := 0) (nx := 10) (dc42 bs_m_all (by decide +kernel)) rfl rfl (G_ldIn (n := 1) (nx := 11) (dc27 bs_m_all (by decide +kernel)) rfl rfl (G_callV (b0 := 0) (nx := 14) (T := TX10) (ci := 10) (g_Fn_of rfl h_m_allOf) (cw_10_425) ⟨wd7_100, sel_GalleyRoomModel_allOf__I_I⟩ ⟨rfl, rfl⟩ ⟨by decide, by show 4 ≤ 21; decide⟩ (Nat.zero_le _) (rec_m_allOf _) (dc182 (x := 1) (y := 169) bs_m_all (by decide +kernel) rfl) rfl (G_goto (off := 4) (nx := 18) (dc167 (x := 0) (y := 4) bs_m_all (by decide +kernel) (by decide +kernel)) (by decide +kernel) (G_iret rfl (dc172 bs_m_all (by decide +kernel))))))))))))
    exact ht _ _ σ q ((e_m_all m_lies m_allOf σ l1).symm.trans e1)
  exact g_meth (σ' := q.1) (v := some (.inl q.2)) (by decide) rfl hw hwf hok (Nat.le_of_ble_eq_true rfl) hGo (fun σ2 v2 h => retI_inv h) (by exact e2)

set_option maxRecDepth 100000 in
set_option maxHeartbeats 4000000 in
theorem h_m_settingLines : g_Ft M_m_settingLines yX10_settingLines 1 (FW_m_settingLines m_settingLines) := by
  intro l w hw σ as hlen hwf hok ρ k r e
  unfold FW_m_settingLines at e
  obtain ⟨hh0, e⟩ := p_C_inv e
  have e := p_E_inv e
  obtain ⟨q, e1, e2⟩ := Option.bind_eq_some_iff.mp e
  have has : as = [.inr (.inr (some (10, 0)))] := g_as1 hlen hh0
  subst has
  have hGo : g_Go M_m_settingLines retI (me M_m_settingLines) 0 (g_loc [.inr (.inr (some (10, 0)))] (ml M_m_settingLines)) [] σ q := by
    have ht : g_Gd M_m_settingLines retI (me M_m_settingLines) 0 (t_m_settingLines m_laysSetting) := (G_ldAn (n := 0) (nx := 1) (dc42 bs_m_settingLines (by decide +kernel)) rfl rfl (G_callV (b0 := 0) (nx := 4) (T := TX10) (ci := 10) (g_Fn_of rfl h_m_laysSetting) (cw_10_410) ⟨wd7_28, sel_GalleyRoomModel_laysSetting___V⟩ ⟨rfl, rfl⟩ ⟨by decide, by show 2 ≤ 21; decide⟩ (Nat.zero_le _) (rec_m_laysSetting _) (dc182 (x := 1) (y := 154) bs_m_settingLines (by decide +kernel) rfl) rfl (G_ldAn (n := 0) (nx := 5) (dc42 bs_m_settingLines (by decide +kernel)) rfl rfl (G_getI (nx := 8) fl_10_403 (Or.inl rfl) (dc180 (x := 1) (y := 147) bs_m_settingLines (by decide +kernel) rfl) rfl (G_iret rfl (dc172 bs_m_settingLines (by decide +kernel)))))))
    exact ht _ _ σ q ((e_m_settingLines m_laysSetting σ ).symm.trans e1)
  exact g_meth (σ' := q.1) (v := some (.inl q.2)) (by decide) rfl hw hwf hok (Nat.le_of_ble_eq_true rfl) hGo (fun σ2 v2 h => retI_inv h) (by exact e2)

set_option maxRecDepth 100000 in
set_option maxHeartbeats 4000000 in
theorem B_m_keeps_b54 : ∀ (n : Nat) (s : Sg) (l1 : Int32) (l2 : Int32) (l3 : Int32) (r : Sg), m_keeps_b54 n s l1 l2 l3 = some r → g_Go M_m_keeps retV 0 54 [some (.inr (.inr (some (10, 0)))), some (.inl l1), some (.inl l2), some (.inl l3)] [] s r := by
  intro n
  induction n with
  | zero => intro s l1 l2 l3 r h; cases h
  | succ n hK54 =>
    intro s l1 l2 l3 r h
    have ht : g_Gd M_m_keeps retV 0 54 (t_m_keeps_b54 (m_keeps_b54 n)) := (G_ldIn (n := 3) (nx := 55) (dc29 bs_m_keeps (by decide +kernel)) rfl rfl (G_bi (n := 15) (nx := 57) (dc16 (x := 15) bs_m_keeps (by decide +kernel) (by decide +kernel)) biv_15 rfl (G_icmpge (off := 28) (tg := 85) (nf := 60) (dc162 (x := 0) (y := 28) bs_m_keeps (by decide +kernel) (by decide +kernel)) (by decide +kernel) rfl
    (G_ldAn (n := 0) (nx := 61) (dc42 bs_m_keeps (by decide +kernel)) rfl rfl (G_getRc (nx := 64) fl_10_78 rf_10_44 (dc180 (x := 0) (y := 78) bs_m_keeps (by decide +kernel) rfl) rfl (G_ldIn (n := 2) (nx := 65) (dc28 bs_m_keeps (by decide +kernel)) rfl rfl (G_ldAn (n := 0) (nx := 66) (dc42 bs_m_keeps (by decide +kernel)) rfl rfl (G_getI (nx := 69) fl_10_11 (Or.inl rfl) (dc180 (x := 0) (y := 11) bs_m_keeps (by decide +kernel) rfl) rfl (G_imul (nx := 70) (dc104 bs_m_keeps (by decide +kernel)) rfl (G_ldIn (n := 3) (nx := 71) (dc29 bs_m_keeps (by decide +kernel)) rfl rfl (G_iadd (nx := 72) (dc96 bs_m_keeps (by decide +kernel)) rfl (G_ldAn (n := 0) (nx := 73) (dc42 bs_m_keeps (by decide +kernel)) rfl rfl (G_getRc (nx := 76) fl_10_24 rf_10_2 (dc180 (x := 0) (y := 24) bs_m_keeps (by decide +kernel) rfl) rfl (G_ldIn (n := 3) (nx := 77) (dc29 bs_m_keeps (by decide +kernel)) rfl rfl (G_iald (nx := 78) ak_43 (dc46 bs_m_keeps (by decide +kernel)) rfl (G_iast (nx := 79) ak_59 (by decide) (dc79 bs_m_keeps (by decide +kernel)) rfl (G_inc (n := 1) (nx := 82) (by show 3 < 4; decide) (dc132 (x := 3) (y := 1) bs_m_keeps (by decide +kernel) (by decide +kernel)) icv_1 rfl (G_goto (off := -28) (nx := 54) (dc167 (x := 255) (y := 228) bs_m_keeps (by decide +kernel) (by decide +kernel)) (by decide +kernel) (G_lbl (Gp_C <| Gp_I fun a1 => Gp_I fun a2 => Gp_I fun a3 => Gp_E fun s r h => hK54 s a1 a2 a3 r h)))))))))))))))))
    (G_ldAn (n := 0) (nx := 86) (dc42 bs_m_keeps (by decide +kernel)) rfl rfl (G_getRc (nx := 89) fl_10_78 rf_10_44 (dc180 (x := 0) (y := 78) bs_m_keeps (by decide +kernel) rfl) rfl (G_ldIn (n := 2) (nx := 90) (dc28 bs_m_keeps (by decide +kernel)) rfl rfl (G_ldAn (n := 0) (nx := 91) (dc42 bs_m_keeps (by decide +kernel)) rfl rfl (G_getI (nx := 94) fl_10_11 (Or.inl rfl) (dc180 (x := 0) (y := 11) bs_m_keeps (by decide +kernel) rfl) rfl (G_imul (nx := 95) (dc104 bs_m_keeps (by decide +kernel)) rfl (G_bi (n := 15) (nx := 97) (dc16 (x := 15) bs_m_keeps (by decide +kernel) (by decide +kernel)) biv_15 rfl (G_iadd (nx := 98) (dc96 bs_m_keeps (by decide +kernel)) rfl (G_ldIn (n := 1) (nx := 99) (dc27 bs_m_keeps (by decide +kernel)) rfl rfl (G_iast (nx := 100) ak_59 (by decide) (dc79 bs_m_keeps (by decide +kernel)) rfl (G_ldAn (n := 0) (nx := 101) (dc42 bs_m_keeps (by decide +kernel)) rfl rfl (G_dup (nx := 102) (dc89 bs_m_keeps (by decide +kernel)) rfl (G_getI (nx := 105) fl_10_11 (Or.inl rfl) (dc180 (x := 0) (y := 11) bs_m_keeps (by decide +kernel) rfl) rfl (G_ic (n := 1) (nx := 106) (dc4 bs_m_keeps (by decide +kernel)) icv_1 rfl (G_iadd (nx := 107) (dc96 bs_m_keeps (by decide +kernel)) rfl (G_putI (nx := 110) fp_10_11 rfl (dc181 (x := 0) (y := 11) bs_m_keeps (by decide +kernel) rfl) rfl (G_vret rfl (dc177 bs_m_keeps (by decide +kernel))))))))))))))))))))))
    exact ht _ _ s r ((e_m_keeps_b54 (m_keeps_b54 n) s l1 l2 l3).symm.trans h)

set_option maxRecDepth 100000 in
set_option maxHeartbeats 4000000 in
theorem B_m_keeps_b14 : ∀ (n : Nat) (s : Sg) (l1 : Int32) (l2 : Int32) (l3 : Int32) (r : Sg), m_keeps_b14 n s l1 l2 l3 = some r → g_Go M_m_keeps retV 0 14 [some (.inr (.inr (some (10, 0)))), some (.inl l1), some (.inl l2), some (.inl l3)] [] s r := by
  intro n
  induction n with
  | zero => intro s l1 l2 l3 r h; cases h
  | succ n hK14 =>
    intro s l1 l2 l3 r h
    have ht : g_Gd M_m_keeps retV 0 14 (t_m_keeps_b14 (m_keeps_b14 n) (m_keeps_b54 FU)) := (G_ldIn (n := 3) (nx := 15) (dc29 bs_m_keeps (by decide +kernel)) rfl rfl (G_bi (n := 15) (nx := 17) (dc16 (x := 15) bs_m_keeps (by decide +kernel) (by decide +kernel)) biv_15 rfl (G_ldIn (n := 2) (nx := 18) (dc28 bs_m_keeps (by decide +kernel)) rfl rfl (G_imul (nx := 19) (dc104 bs_m_keeps (by decide +kernel)) rfl (G_icmpge (off := 23) (tg := 42) (nf := 22) (dc162 (x := 0) (y := 23) bs_m_keeps (by decide +kernel) (by decide +kernel)) (by decide +kernel) rfl
    (G_ldAn (n := 0) (nx := 23) (dc42 bs_m_keeps (by decide +kernel)) rfl rfl (G_getRc (nx := 26) fl_10_78 rf_10_44 (dc180 (x := 0) (y := 78) bs_m_keeps (by decide +kernel) rfl) rfl (G_ldIn (n := 3) (nx := 27) (dc29 bs_m_keeps (by decide +kernel)) rfl rfl (G_ldAn (n := 0) (nx := 28) (dc42 bs_m_keeps (by decide +kernel)) rfl rfl (G_getRc (nx := 31) fl_10_78 rf_10_44 (dc180 (x := 0) (y := 78) bs_m_keeps (by decide +kernel) rfl) rfl (G_ldIn (n := 3) (nx := 32) (dc29 bs_m_keeps (by decide +kernel)) rfl rfl (G_ldIn (n := 2) (nx := 33) (dc28 bs_m_keeps (by decide +kernel)) rfl rfl (G_iadd (nx := 34) (dc96 bs_m_keeps (by decide +kernel)) rfl (G_iald (nx := 35) ak_59 (dc46 bs_m_keeps (by decide +kernel)) rfl (G_iast (nx := 36) ak_59 (by decide) (dc79 bs_m_keeps (by decide +kernel)) rfl (G_inc (n := 1) (nx := 39) (by show 3 < 4; decide) (dc132 (x := 3) (y := 1) bs_m_keeps (by decide +kernel) (by decide +kernel)) icv_1 rfl (G_goto (off := -25) (nx := 14) (dc167 (x := 255) (y := 231) bs_m_keeps (by decide +kernel) (by decide +kernel)) (by decide +kernel) (G_lbl (Gp_C <| Gp_I fun a1 => Gp_I fun a2 => Gp_I fun a3 => Gp_E fun s r h => hK14 s a1 a2 a3 r h))))))))))))))
    (G_ldAn (n := 0) (nx := 43) (dc42 bs_m_keeps (by decide +kernel)) rfl rfl (G_dup (nx := 44) (dc89 bs_m_keeps (by decide +kernel)) rfl (G_getI (nx := 47) fl_10_11 (Or.inl rfl) (dc180 (x := 0) (y := 11) bs_m_keeps (by decide +kernel) rfl) rfl (G_ic (n := 1) (nx := 48) (dc4 bs_m_keeps (by decide +kernel)) icv_1 rfl (G_isub (nx := 49) (dc100 bs_m_keeps (by decide +kernel)) rfl (G_putI (nx := 52) fp_10_11 rfl (dc181 (x := 0) (y := 11) bs_m_keeps (by decide +kernel) rfl) rfl (G_ic (n := 0) (nx := 53) (dc3 bs_m_keeps (by decide +kernel)) icv_0 rfl (G_stIn (n := 3) (nx := 54) (by show 3 < 4; decide) (dc62 bs_m_keeps (by decide +kernel)) rfl rfl (G_lbl (Gp_C <| Gp_I fun a1 => Gp_I fun a2 => Gp_I fun a3 => Gp_E fun s r h => B_m_keeps_b54 FU s a1 a2 a3 r h)))))))))))))))
    exact ht _ _ s r ((e_m_keeps_b14 (m_keeps_b14 n) (m_keeps_b54 FU) s l1 l2 l3).symm.trans h)

set_option maxRecDepth 100000 in
set_option maxHeartbeats 4000000 in
theorem h_m_keeps : g_Ft M_m_keeps yX10_keeps 2 (FW_m_keeps m_keeps) := by
  intro l w hw σ as hlen hwf hok ρ k r e
  unfold FW_m_keeps at e
  obtain ⟨hh0, e⟩ := p_C_inv e
  obtain ⟨l1, hh1, e⟩ := p_I_inv e
  have e := p_E_inv e
  obtain ⟨q, e1, e2⟩ := Option.bind_eq_some_iff.mp e
  have has : as = [.inr (.inr (some (10, 0))), .inl l1] := g_as2 hlen hh0 hh1
  subst has
  have hGo : g_Go M_m_keeps retV (me M_m_keeps) 0 (g_loc [.inr (.inr (some (10, 0))), .inl l1] (ml M_m_keeps)) [] σ q := by
    have ht : g_Gd M_m_keeps retV (me M_m_keeps) 0 (t_m_keeps (m_keeps_b14 FU) (m_keeps_b54 FU)) := (G_bi (n := 16) (nx := 2) (dc16 (x := 16) bs_m_keeps (by decide +kernel) (by decide +kernel)) biv_16 rfl (G_stIn (n := 2) (nx := 3) (by show 2 < 4; decide) (dc61 bs_m_keeps (by decide +kernel)) rfl rfl (G_ldAn (n := 0) (nx := 4) (dc42 bs_m_keeps (by decide +kernel)) rfl rfl (G_getI (nx := 7) fl_10_11 (Or.inl rfl) (dc180 (x := 0) (y := 11) bs_m_keeps (by decide +kernel) rfl) rfl (G_bi (n := 16) (nx := 9) (dc16 (x := 16) bs_m_keeps (by decide +kernel) (by decide +kernel)) biv_16 rfl (G_icmpne (off := 43) (tg := 52) (nf := 12) (dc160 (x := 0) (y := 43) bs_m_keeps (by decide +kernel) (by decide +kernel)) (by decide +kernel) rfl
  (G_ic (n := 0) (nx := 13) (dc3 bs_m_keeps (by decide +kernel)) icv_0 rfl (G_stIn (n := 3) (nx := 14) (by show 3 < 4; decide) (dc62 bs_m_keeps (by decide +kernel)) rfl rfl (G_lbl (Gp_C <| Gp_I fun a1 => Gp_I fun a2 => Gp_I fun a3 => Gp_E fun s r h => B_m_keeps_b14 FU s a1 a2 a3 r h))))
  (G_ic (n := 0) (nx := 53) (dc3 bs_m_keeps (by decide +kernel)) icv_0 rfl (G_stIn (n := 3) (nx := 54) (by show 3 < 4; decide) (dc62 bs_m_keeps (by decide +kernel)) rfl rfl (G_lbl (Gp_C <| Gp_I fun a1 => Gp_I fun a2 => Gp_I fun a3 => Gp_E fun s r h => B_m_keeps_b54 FU s a1 a2 a3 r h))))))))))
    exact ht _ _ σ q ((e_m_keeps (m_keeps_b14 FU) (m_keeps_b54 FU) σ l1).symm.trans e1)
  exact g_meth (σ' := q) (v := none) (by decide) rfl hw hwf hok (Nat.le_of_ble_eq_true rfl) hGo (fun σ2 v2 h => retV_inv h) (by exact e2)

set_option maxRecDepth 100000 in
set_option maxHeartbeats 4000000 in
theorem B_m_undo_b34 : ∀ (n : Nat) (s : Sg) (l1 : Int32) (l2 : Int32) (r : (Sg × Int32)), m_undo_b34 n s l1 l2 = some r → g_Go M_m_undo retI 0 34 [some (.inr (.inr (some (10, 0)))), some (.inl l1), some (.inl l2)] [] s r := by
  intro n
  induction n with
  | zero => intro s l1 l2 r h; cases h
  | succ n hK34 =>
    intro s l1 l2 r h
    have ht : g_Gd M_m_undo retI 0 34 (t_m_undo_b34 (m_undo_b34 n) m_good) := (G_ldIn (n := 2) (nx := 35) (dc28 bs_m_undo (by decide +kernel)) rfl rfl (G_bi (n := 15) (nx := 37) (dc16 (x := 15) bs_m_undo (by decide +kernel) (by decide +kernel)) biv_15 rfl (G_icmpge (off := 23) (tg := 60) (nf := 40) (dc162 (x := 0) (y := 23) bs_m_undo (by decide +kernel) (by decide +kernel)) (by decide +kernel) rfl
    (G_ldAn (n := 0) (nx := 41) (dc42 bs_m_undo (by decide +kernel)) rfl rfl (G_getRc (nx := 44) fl_10_24 rf_10_2 (dc180 (x := 0) (y := 24) bs_m_undo (by decide +kernel) rfl) rfl (G_ldIn (n := 2) (nx := 45) (dc28 bs_m_undo (by decide +kernel)) rfl rfl (G_ldAn (n := 0) (nx := 46) (dc42 bs_m_undo (by decide +kernel)) rfl rfl (G_getRc (nx := 49) fl_10_78 rf_10_44 (dc180 (x := 0) (y := 78) bs_m_undo (by decide +kernel) rfl) rfl (G_ldIn (n := 1) (nx := 50) (dc27 bs_m_undo (by decide +kernel)) rfl rfl (G_ldIn (n := 2) (nx := 51) (dc28 bs_m_undo (by decide +kernel)) rfl rfl (G_iadd (nx := 52) (dc96 bs_m_undo (by decide +kernel)) rfl (G_iald (nx := 53) ak_59 (dc46 bs_m_undo (by decide +kernel)) rfl (G_iast (nx := 54) ak_43 (by decide) (dc79 bs_m_undo (by decide +kernel)) rfl (G_inc (n := 1) (nx := 57) (by show 2 < 3; decide) (dc132 (x := 2) (y := 1) bs_m_undo (by decide +kernel) (by decide +kernel)) icv_1 rfl (G_goto (off := -23) (nx := 34) (dc167 (x := 255) (y := 233) bs_m_undo (by decide +kernel) (by decide +kernel)) (by decide +kernel) (G_lbl (Gp_C <| Gp_I fun a1 => Gp_I fun a2 => Gp_E fun s r h => hK34 s a1 a2 r h))))))))))))))
    (G_ldAn (n := 0) (nx := 61) (dc42 bs_m_undo (by decide +kernel)) rfl rfl (G_ldAn (n := 0) (nx := 62) (dc42 bs_m_undo (by decide +kernel)) rfl rfl (G_getRc (nx := 65) fl_10_78 rf_10_44 (dc180 (x := 0) (y := 78) bs_m_undo (by decide +kernel) rfl) rfl (G_ldIn (n := 1) (nx := 66) (dc27 bs_m_undo (by decide +kernel)) rfl rfl (G_bi (n := 15) (nx := 68) (dc16 (x := 15) bs_m_undo (by decide +kernel) (by decide +kernel)) biv_15 rfl (G_iadd (nx := 69) (dc96 bs_m_undo (by decide +kernel)) rfl (G_iald (nx := 70) ak_59 (dc46 bs_m_undo (by decide +kernel)) rfl (G_callV (b0 := 0) (nx := 73) (T := TX10) (ci := 10) (g_Fn_of rfl h_m_good) (cw_10_14) ⟨wd6_82, sel_GalleyRoomModel_good__I_I⟩ ⟨rfl, rfl⟩ ⟨by decide, by show 2 ≤ 21; decide⟩ (Nat.zero_le _) (rec_m_good _) (dc182 (x := 0) (y := 14) bs_m_undo (by decide +kernel) rfl) rfl (G_iret rfl (dc172 bs_m_undo (by decide +kernel))))))))))))))
    exact ht _ _ s r ((e_m_undo_b34 (m_undo_b34 n) m_good s l1 l2).symm.trans h)

set_option maxRecDepth 100000 in
set_option maxHeartbeats 4000000 in
theorem h_m_undo : g_Ft M_m_undo yX10_undo 1 (FW_m_undo m_undo) := by
  intro l w hw σ as hlen hwf hok ρ k r e
  unfold FW_m_undo at e
  obtain ⟨hh0, e⟩ := p_C_inv e
  have e := p_E_inv e
  obtain ⟨q, e1, e2⟩ := Option.bind_eq_some_iff.mp e
  have has : as = [.inr (.inr (some (10, 0)))] := g_as1 hlen hh0
  subst has
  have hGo : g_Go M_m_undo retI (me M_m_undo) 0 (g_loc [.inr (.inr (some (10, 0)))] (ml M_m_undo)) [] σ q := by
    have ht : g_Gd M_m_undo retI (me M_m_undo) 0 (t_m_undo (m_undo_b34 FU) m_refuses) := (G_ldAn (n := 0) (nx := 1) (dc42 bs_m_undo (by decide +kernel)) rfl rfl (G_getI (nx := 4) fl_10_11 (Or.inl rfl) (dc180 (x := 0) (y := 11) bs_m_undo (by decide +kernel) rfl) rfl (G_ifne (off := 10) (tg := 14) (nf := 7) (dc154 (x := 0) (y := 10) bs_m_undo (by decide +kernel) (by decide +kernel)) (by decide +kernel) rfl
  (G_ldAn (n := 0) (nx := 8) (dc42 bs_m_undo (by decide +kernel)) rfl rfl (G_bi (n := -3) (nx := 10) (dc16 (x := 253) bs_m_undo (by decide +kernel) (by decide +kernel)) biv_m3 rfl (G_callV (b0 := 0) (nx := 13) (T := TX10) (ci := 10) (g_Fn_of rfl h_m_refuses) (cw_10_136) ⟨wd6_78, sel_GalleyRoomModel_refuses__I_I⟩ ⟨rfl, rfl⟩ ⟨by decide, by show 2 ≤ 21; decide⟩ (Nat.zero_le _) (rec_m_refuses _) (dc182 (x := 0) (y := 136) bs_m_undo (by decide +kernel) rfl) rfl (G_iret rfl (dc172 bs_m_undo (by decide +kernel))))))
  (G_ldAn (n := 0) (nx := 15) (dc42 bs_m_undo (by decide +kernel)) rfl rfl (G_dup (nx := 16) (dc89 bs_m_undo (by decide +kernel)) rfl (G_getI (nx := 19) fl_10_11 (Or.inl rfl) (dc180 (x := 0) (y := 11) bs_m_undo (by decide +kernel) rfl) rfl (G_ic (n := 1) (nx := 20) (dc4 bs_m_undo (by decide +kernel)) icv_1 rfl (G_isub (nx := 21) (dc100 bs_m_undo (by decide +kernel)) rfl (G_putI (nx := 24) fp_10_11 rfl (dc181 (x := 0) (y := 11) bs_m_undo (by decide +kernel) rfl) rfl (G_bi (n := 16) (nx := 26) (dc16 (x := 16) bs_m_undo (by decide +kernel) (by decide +kernel)) biv_16 rfl (G_ldAn (n := 0) (nx := 27) (dc42 bs_m_undo (by decide +kernel)) rfl rfl (G_getI (nx := 30) fl_10_11 (Or.inl rfl) (dc180 (x := 0) (y := 11) bs_m_undo (by decide +kernel) rfl) rfl (G_imul (nx := 31) (dc104 bs_m_undo (by decide +kernel)) rfl (G_stIn (n := 1) (nx := 32) (by show 1 < 3; decide) (dc60 bs_m_undo (by decide +kernel)) rfl rfl (G_ic (n := 0) (nx := 33) (dc3 bs_m_undo (by decide +kernel)) icv_0 rfl (G_stIn (n := 2) (nx := 34) (by show 2 < 3; decide) (dc61 bs_m_undo (by decide +kernel)) rfl rfl (G_lbl (Gp_C <| Gp_I fun a1 => Gp_I fun a2 => Gp_E fun s r h => B_m_undo_b34 FU s a1 a2 r h))))))))))))))))))
    exact ht _ _ σ q ((e_m_undo (m_undo_b34 FU) m_refuses σ ).symm.trans e1)
  exact g_meth (σ' := q.1) (v := some (.inl q.2)) (by decide) rfl hw hwf hok (Nat.le_of_ble_eq_true rfl) hGo (fun σ2 v2 h => retI_inv h) (by exact e2)

set_option maxRecDepth 100000 in
set_option maxHeartbeats 4000000 in
theorem h_m_goodOr : g_Ft M_m_goodOr yX10_goodOr 2 (FW_m_goodOr m_goodOr) := by
  intro l w hw σ as hlen hwf hok ρ k r e
  unfold FW_m_goodOr at e
  obtain ⟨hh0, e⟩ := p_C_inv e
  obtain ⟨l1, hh1, e⟩ := p_I_inv e
  have e := p_E_inv e
  obtain ⟨q, e1, e2⟩ := Option.bind_eq_some_iff.mp e
  have has : as = [.inr (.inr (some (10, 0))), .inl l1] := g_as2 hlen hh0 hh1
  subst has
  have hGo : g_Go M_m_goodOr retI (me M_m_goodOr) 0 (g_loc [.inr (.inr (some (10, 0))), .inl l1] (ml M_m_goodOr)) [] σ q := by
    have ht : g_Gd M_m_goodOr retI (me M_m_goodOr) 0 (t_m_goodOr m_refuses m_good) := (G_ldIn (n := 1) (nx := 1) (dc27 bs_m_goodOr (by decide +kernel)) rfl rfl (G_ifge (off := 11) (tg := 12) (nf := 4) (dc156 (x := 0) (y := 11) bs_m_goodOr (by decide +kernel) (by decide +kernel)) (by decide +kernel) rfl
  (G_ldAn (n := 0) (nx := 5) (dc42 bs_m_goodOr (by decide +kernel)) rfl rfl (G_ldIn (n := 1) (nx := 6) (dc27 bs_m_goodOr (by decide +kernel)) rfl rfl (G_callV (b0 := 0) (nx := 9) (T := TX10) (ci := 10) (g_Fn_of rfl h_m_refuses) (cw_10_136) ⟨wd6_78, sel_GalleyRoomModel_refuses__I_I⟩ ⟨rfl, rfl⟩ ⟨by decide, by show 2 ≤ 21; decide⟩ (Nat.zero_le _) (rec_m_refuses _) (dc182 (x := 0) (y := 136) bs_m_goodOr (by decide +kernel) rfl) rfl (G_goto (off := 8) (nx := 17) (dc167 (x := 0) (y := 8) bs_m_goodOr (by decide +kernel) (by decide +kernel)) (by decide +kernel) (G_iret rfl (dc172 bs_m_goodOr (by decide +kernel)))))))
  (G_ldAn (n := 0) (nx := 13) (dc42 bs_m_goodOr (by decide +kernel)) rfl rfl (G_ldIn (n := 1) (nx := 14) (dc27 bs_m_goodOr (by decide +kernel)) rfl rfl (G_callV (b0 := 0) (nx := 17) (T := TX10) (ci := 10) (g_Fn_of rfl h_m_good) (cw_10_14) ⟨wd6_82, sel_GalleyRoomModel_good__I_I⟩ ⟨rfl, rfl⟩ ⟨by decide, by show 2 ≤ 21; decide⟩ (Nat.zero_le _) (rec_m_good _) (dc182 (x := 0) (y := 14) bs_m_goodOr (by decide +kernel) rfl) rfl (G_iret rfl (dc172 bs_m_goodOr (by decide +kernel))))))))
    exact ht _ _ σ q ((e_m_goodOr m_refuses m_good σ l1).symm.trans e1)
  exact g_meth (σ' := q.1) (v := some (.inl q.2)) (by decide) rfl hw hwf hok (Nat.le_of_ble_eq_true rfl) hGo (fun σ2 v2 h => retI_inv h) (by exact e2)

set_option maxRecDepth 100000 in
set_option maxHeartbeats 4000000 in
theorem h_m_stopsKept : g_Ft M_m_stopsKept yX10_stopsKept 2 (FW_m_stopsKept m_stopsKept) := by
  intro l w hw σ as hlen hwf hok ρ k r e
  unfold FW_m_stopsKept at e
  obtain ⟨hh0, e⟩ := p_C_inv e
  obtain ⟨l1, hh1, e⟩ := p_I_inv e
  have e := p_E_inv e
  obtain ⟨q, e1, e2⟩ := Option.bind_eq_some_iff.mp e
  have has : as = [.inr (.inr (some (10, 0))), .inl l1] := g_as2 hlen hh0 hh1
  subst has
  have hGo : g_Go M_m_stopsKept retI (me M_m_stopsKept) 0 (g_loc [.inr (.inr (some (10, 0))), .inl l1] (ml M_m_stopsKept)) [] σ q := by
    have ht : g_Gd M_m_stopsKept retI (me M_m_stopsKept) 0 (t_m_stopsKept m_isWord m_isLast m_keeps m_endsAfter) := (G_ldAn (n := 0) (nx := 1) (dc42 bs_m_stopsKept (by decide +kernel)) rfl rfl (G_ldIn (n := 1) (nx := 2) (dc27 bs_m_stopsKept (by decide +kernel)) rfl rfl (G_callV (b0 := 0) (nx := 5) (T := TX10) (ci := 10) (g_Fn_of rfl h_m_isWord) (cw_10_161) ⟨wd6_109, sel_GalleyRoomModel_isWord__I_Z⟩ ⟨rfl, rfl⟩ ⟨by decide, by show 2 ≤ 21; decide⟩ (Nat.zero_le _) (rec_m_isWord _) (dc182 (x := 0) (y := 161) bs_m_stopsKept (by decide +kernel) rfl) rfl (G_ifne (off := 6) (tg := 11) (nf := 8) (dc154 (x := 0) (y := 6) bs_m_stopsKept (by decide +kernel) (by decide +kernel)) (by decide +kernel) rfl
  (G_bi (n := -2) (nx := 10) (dc16 (x := 254) bs_m_stopsKept (by decide +kernel) (by decide +kernel)) biv_m2 rfl (G_iret rfl (dc172 bs_m_stopsKept (by decide +kernel))))
  (G_ldAn (n := 0) (nx := 12) (dc42 bs_m_stopsKept (by decide +kernel)) rfl rfl (G_ldIn (n := 1) (nx := 13) (dc27 bs_m_stopsKept (by decide +kernel)) rfl rfl (G_callV (b0 := 0) (nx := 16) (T := TX10) (ci := 10) (g_Fn_of rfl h_m_isLast) (cw_10_146) ⟨wd6_117, sel_GalleyRoomModel_isLast__I_Z⟩ ⟨rfl, rfl⟩ ⟨by decide, by show 2 ≤ 21; decide⟩ (Nat.zero_le _) (rec_m_isLast _) (dc182 (x := 0) (y := 146) bs_m_stopsKept (by decide +kernel) rfl) rfl (G_ifeq (off := 6) (tg := 22) (nf := 19) (dc153 (x := 0) (y := 6) bs_m_stopsKept (by decide +kernel) (by decide +kernel)) (by decide +kernel) rfl
    (G_ldAn (n := 0) (nx := 23) (dc42 bs_m_stopsKept (by decide +kernel)) rfl rfl (G_ic (n := 0) (nx := 24) (dc3 bs_m_stopsKept (by decide +kernel)) icv_0 rfl (G_callV (b0 := 0) (nx := 27) (T := TX10) (ci := 10) (g_Fn_of rfl h_m_keeps) (cw_10_428) ⟨wd7_116, sel_GalleyRoomModel_keeps__I_V⟩ ⟨rfl, rfl⟩ ⟨by decide, by show 4 ≤ 21; decide⟩ (Nat.zero_le _) (rec_m_keeps _) (dc182 (x := 1) (y := 172) bs_m_stopsKept (by decide +kernel) rfl) rfl (G_ldAn (n := 0) (nx := 28) (dc42 bs_m_stopsKept (by decide +kernel)) rfl rfl (G_getRc (nx := 31) fl_10_24 rf_10_2 (dc180 (x := 0) (y := 24) bs_m_stopsKept (by decide +kernel) rfl) rfl (G_ic (n := 0) (nx := 32) (dc3 bs_m_stopsKept (by decide +kernel)) icv_0 rfl (G_dup2 (nx := 33) (dc92 bs_m_stopsKept (by decide +kernel)) rfl (G_iald (nx := 34) ak_43 (dc46 bs_m_stopsKept (by decide +kernel)) rfl (G_ic (n := 1) (nx := 35) (dc4 bs_m_stopsKept (by decide +kernel)) icv_1 rfl (G_ldIn (n := 1) (nx := 36) (dc27 bs_m_stopsKept (by decide +kernel)) rfl rfl (G_ishl (nx := 37) (dc120 bs_m_stopsKept (by decide +kernel)) rfl (G_ixor (nx := 38) (dc130 bs_m_stopsKept (by decide +kernel)) rfl (G_iast (nx := 39) ak_43 (by decide) (dc79 bs_m_stopsKept (by decide +kernel)) rfl (G_ldAn (n := 0) (nx := 40) (dc42 bs_m_stopsKept (by decide +kernel)) rfl rfl (G_ldIn (n := 1) (nx := 41) (dc27 bs_m_stopsKept (by decide +kernel)) rfl rfl (G_callV (b0 := 0) (nx := 44) (T := TX10) (ci := 10) (g_Fn_of rfl h_m_endsAfter) (cw_10_164) ⟨wd6_113, sel_GalleyRoomModel_endsAfter__I_Z⟩ ⟨rfl, rfl⟩ ⟨by decide, by show 2 ≤ 21; decide⟩ (Nat.zero_le _) (rec_m_endsAfter _) (dc182 (x := 0) (y := 164) bs_m_stopsKept (by decide +kernel) rfl) rfl (G_ifeq (off := 7) (tg := 51) (nf := 47) (dc153 (x := 0) (y := 7) bs_m_stopsKept (by decide +kernel) (by decide +kernel)) (by decide +kernel) rfl
      (G_ic (n := 0) (nx := 52) (dc3 bs_m_stopsKept (by decide +kernel)) icv_0 rfl (G_iret rfl (dc172 bs_m_stopsKept (by decide +kernel))))
      (G_ic (n := 1) (nx := 48) (dc4 bs_m_stopsKept (by decide +kernel)) icv_1 rfl (G_goto (off := 4) (nx := 52) (dc167 (x := 0) (y := 4) bs_m_stopsKept (by decide +kernel) (by decide +kernel)) (by decide +kernel) (G_iret rfl (dc172 bs_m_stopsKept (by decide +kernel))))))))))))))))))))))
    (G_bi (n := -3) (nx := 21) (dc16 (x := 253) bs_m_stopsKept (by decide +kernel) (by decide +kernel)) biv_m3 rfl (G_iret rfl (dc172 bs_m_stopsKept (by decide +kernel))))))))))))
    exact ht _ _ σ q ((e_m_stopsKept m_isWord m_isLast m_keeps m_endsAfter σ l1).symm.trans e1)
  exact g_meth (σ' := q.1) (v := some (.inl q.2)) (by decide) rfl hw hwf hok (Nat.le_of_ble_eq_true rfl) hGo (fun σ2 v2 h => retI_inv h) (by exact e2)

set_option maxRecDepth 100000 in
set_option maxHeartbeats 4000000 in
theorem h_m_splitsKept : g_Ft M_m_splitsKept yX10_splitsKept 2 (FW_m_splitsKept m_splitsKept) := by
  intro l w hw σ as hlen hwf hok ρ k r e
  unfold FW_m_splitsKept at e
  obtain ⟨hh0, e⟩ := p_C_inv e
  obtain ⟨l1, hh1, e⟩ := p_I_inv e
  have e := p_E_inv e
  obtain ⟨q, e1, e2⟩ := Option.bind_eq_some_iff.mp e
  have has : as = [.inr (.inr (some (10, 0))), .inl l1] := g_as2 hlen hh0 hh1
  subst has
  have hGo : g_Go M_m_splitsKept retI (me M_m_splitsKept) 0 (g_loc [.inr (.inr (some (10, 0))), .inl l1] (ml M_m_splitsKept)) [] σ q := by
    have ht : g_Gd M_m_splitsKept retI (me M_m_splitsKept) 0 (t_m_splitsKept m_isWord m_keeps m_isSplit) := (G_ldAn (n := 0) (nx := 1) (dc42 bs_m_splitsKept (by decide +kernel)) rfl rfl (G_ldIn (n := 1) (nx := 2) (dc27 bs_m_splitsKept (by decide +kernel)) rfl rfl (G_callV (b0 := 0) (nx := 5) (T := TX10) (ci := 10) (g_Fn_of rfl h_m_isWord) (cw_10_161) ⟨wd6_109, sel_GalleyRoomModel_isWord__I_Z⟩ ⟨rfl, rfl⟩ ⟨by decide, by show 2 ≤ 21; decide⟩ (Nat.zero_le _) (rec_m_isWord _) (dc182 (x := 0) (y := 161) bs_m_splitsKept (by decide +kernel) rfl) rfl (G_ifne (off := 6) (tg := 11) (nf := 8) (dc154 (x := 0) (y := 6) bs_m_splitsKept (by decide +kernel) (by decide +kernel)) (by decide +kernel) rfl
  (G_bi (n := -2) (nx := 10) (dc16 (x := 254) bs_m_splitsKept (by decide +kernel) (by decide +kernel)) biv_m2 rfl (G_iret rfl (dc172 bs_m_splitsKept (by decide +kernel))))
  (G_ldAn (n := 0) (nx := 12) (dc42 bs_m_splitsKept (by decide +kernel)) rfl rfl (G_getRc (nx := 15) fl_10_24 rf_10_2 (dc180 (x := 0) (y := 24) bs_m_splitsKept (by decide +kernel) rfl) rfl (G_bi (n := 15) (nx := 17) (dc16 (x := 15) bs_m_splitsKept (by decide +kernel) (by decide +kernel)) biv_15 rfl (G_ldIn (n := 1) (nx := 18) (dc27 bs_m_splitsKept (by decide +kernel)) rfl rfl (G_iadd (nx := 19) (dc96 bs_m_splitsKept (by decide +kernel)) rfl (G_iald (nx := 20) ak_43 (dc46 bs_m_splitsKept (by decide +kernel)) rfl (G_ifne (off := 6) (tg := 26) (nf := 23) (dc154 (x := 0) (y := 6) bs_m_splitsKept (by decide +kernel) (by decide +kernel)) (by decide +kernel) rfl
    (G_bi (n := -3) (nx := 25) (dc16 (x := 253) bs_m_splitsKept (by decide +kernel) (by decide +kernel)) biv_m3 rfl (G_iret rfl (dc172 bs_m_splitsKept (by decide +kernel))))
    (G_ldAn (n := 0) (nx := 27) (dc42 bs_m_splitsKept (by decide +kernel)) rfl rfl (G_ic (n := 1) (nx := 28) (dc4 bs_m_splitsKept (by decide +kernel)) icv_1 rfl (G_callV (b0 := 0) (nx := 31) (T := TX10) (ci := 10) (g_Fn_of rfl h_m_keeps) (cw_10_428) ⟨wd7_116, sel_GalleyRoomModel_keeps__I_V⟩ ⟨rfl, rfl⟩ ⟨by decide, by show 4 ≤ 21; decide⟩ (Nat.zero_le _) (rec_m_keeps _) (dc182 (x := 1) (y := 172) bs_m_splitsKept (by decide +kernel) rfl) rfl (G_ldAn (n := 0) (nx := 32) (dc42 bs_m_splitsKept (by decide +kernel)) rfl rfl (G_getRc (nx := 35) fl_10_24 rf_10_2 (dc180 (x := 0) (y := 24) bs_m_splitsKept (by decide +kernel) rfl) rfl (G_ic (n := 1) (nx := 36) (dc4 bs_m_splitsKept (by decide +kernel)) icv_1 rfl (G_dup2 (nx := 37) (dc92 bs_m_splitsKept (by decide +kernel)) rfl (G_iald (nx := 38) ak_43 (dc46 bs_m_splitsKept (by decide +kernel)) rfl (G_ic (n := 1) (nx := 39) (dc4 bs_m_splitsKept (by decide +kernel)) icv_1 rfl (G_ldIn (n := 1) (nx := 40) (dc27 bs_m_splitsKept (by decide +kernel)) rfl rfl (G_ishl (nx := 41) (dc120 bs_m_splitsKept (by decide +kernel)) rfl (G_ixor (nx := 42) (dc130 bs_m_splitsKept (by decide +kernel)) rfl (G_iast (nx := 43) ak_43 (by decide) (dc79 bs_m_splitsKept (by decide +kernel)) rfl (G_ldAn (n := 0) (nx := 44) (dc42 bs_m_splitsKept (by decide +kernel)) rfl rfl (G_ldIn (n := 1) (nx := 45) (dc27 bs_m_splitsKept (by decide +kernel)) rfl rfl (G_callV (b0 := 0) (nx := 48) (T := TX10) (ci := 10) (g_Fn_of rfl h_m_isSplit) (cw_10_167) ⟨wd6_124, sel_GalleyRoomModel_isSplit__I_Z⟩ ⟨rfl, rfl⟩ ⟨by decide, by show 2 ≤ 21; decide⟩ (Nat.zero_le _) (rec_m_isSplit _) (dc182 (x := 0) (y := 167) bs_m_splitsKept (by decide +kernel) rfl) rfl (G_ifeq (off := 7) (tg := 55) (nf := 51) (dc153 (x := 0) (y := 7) bs_m_splitsKept (by decide +kernel) (by decide +kernel)) (by decide +kernel) rfl
      (G_ic (n := 0) (nx := 56) (dc3 bs_m_splitsKept (by decide +kernel)) icv_0 rfl (G_iret rfl (dc172 bs_m_splitsKept (by decide +kernel))))
      (G_ic (n := 1) (nx := 52) (dc4 bs_m_splitsKept (by decide +kernel)) icv_1 rfl (G_goto (off := 4) (nx := 56) (dc167 (x := 0) (y := 4) bs_m_splitsKept (by decide +kernel) (by decide +kernel)) (by decide +kernel) (G_iret rfl (dc172 bs_m_splitsKept (by decide +kernel)))))))))))))))))))))))))))))))))
    exact ht _ _ σ q ((e_m_splitsKept m_isWord m_keeps m_isSplit σ l1).symm.trans e1)
  exact g_meth (σ' := q.1) (v := some (.inl q.2)) (by decide) rfl hw hwf hok (Nat.le_of_ble_eq_true rfl) hGo (fun σ2 v2 h => retI_inv h) (by exact e2)

set_option maxRecDepth 100000 in
set_option maxHeartbeats 4000000 in
theorem h_m_canSwell : g_Ft M_m_canSwell yX10_canSwell 3 (FW_m_canSwell m_canSwell) := by
  intro l w hw σ as hlen hwf hok ρ k r e
  unfold FW_m_canSwell at e
  obtain ⟨hh0, e⟩ := p_C_inv e
  obtain ⟨l1, hh1, e⟩ := p_I_inv e
  obtain ⟨l2, hh2, e⟩ := p_I_inv e
  have e := p_E_inv e
  obtain ⟨q, e1, e2⟩ := Option.bind_eq_some_iff.mp e
  have has : as = [.inr (.inr (some (10, 0))), .inl l1, .inl l2] := g_as3 hlen hh0 hh1 hh2
  subst has
  have hGo : g_Go M_m_canSwell retI (me M_m_canSwell) 0 (g_loc [.inr (.inr (some (10, 0))), .inl l1, .inl l2] (ml M_m_canSwell)) [] σ q := by
    have ht : g_Gd M_m_canSwell retI (me M_m_canSwell) 0 (t_m_canSwell) := (G_ldIn (n := 2) (nx := 1) (dc28 bs_m_canSwell (by decide +kernel)) rfl rfl (G_ldAn (n := 0) (nx := 2) (dc42 bs_m_canSwell (by decide +kernel)) rfl rfl (G_getRc (nx := 5) fl_10_24 rf_10_2 (dc180 (x := 0) (y := 24) bs_m_canSwell (by decide +kernel) rfl) rfl (G_ic (n := 2) (nx := 6) (dc5 bs_m_canSwell (by decide +kernel)) icv_2 rfl (G_ldIn (n := 1) (nx := 7) (dc27 bs_m_canSwell (by decide +kernel)) rfl rfl (G_iadd (nx := 8) (dc96 bs_m_canSwell (by decide +kernel)) rfl (G_iald (nx := 9) ak_43 (dc46 bs_m_canSwell (by decide +kernel)) rfl (G_icmpeq (off := 20) (tg := 29) (nf := 12) (dc159 (x := 0) (y := 20) bs_m_canSwell (by decide +kernel) (by decide +kernel)) (by decide +kernel) rfl
  (G_ic (n := 0) (nx := 30) (dc3 bs_m_canSwell (by decide +kernel)) icv_0 rfl (G_zret rfl (dc172 bs_m_canSwell (by decide +kernel))))
  (G_ldIn (n := 2) (nx := 13) (dc28 bs_m_canSwell (by decide +kernel)) rfl rfl (G_ldAn (n := 0) (nx := 14) (dc42 bs_m_canSwell (by decide +kernel)) rfl rfl (G_getRc (nx := 17) fl_10_24 rf_10_2 (dc180 (x := 0) (y := 24) bs_m_canSwell (by decide +kernel) rfl) rfl (G_bi (n := 15) (nx := 19) (dc16 (x := 15) bs_m_canSwell (by decide +kernel) (by decide +kernel)) biv_15 rfl (G_ldIn (n := 1) (nx := 20) (dc27 bs_m_canSwell (by decide +kernel)) rfl rfl (G_iadd (nx := 21) (dc96 bs_m_canSwell (by decide +kernel)) rfl (G_iald (nx := 22) ak_43 (dc46 bs_m_canSwell (by decide +kernel)) rfl (G_icmple (off := 7) (tg := 29) (nf := 25) (dc164 (x := 0) (y := 7) bs_m_canSwell (by decide +kernel) (by decide +kernel)) (by decide +kernel) rfl
    (G_ic (n := 1) (nx := 26) (dc4 bs_m_canSwell (by decide +kernel)) icv_1 rfl (G_goto (off := 4) (nx := 30) (dc167 (x := 0) (y := 4) bs_m_canSwell (by decide +kernel) (by decide +kernel)) (by decide +kernel) (G_zret rfl (dc172 bs_m_canSwell (by decide +kernel)))))
    (G_ic (n := 0) (nx := 30) (dc3 bs_m_canSwell (by decide +kernel)) icv_0 rfl (G_zret rfl (dc172 bs_m_canSwell (by decide +kernel))))))))))))))))))))
    exact ht _ _ σ q ((e_m_canSwell  σ l1 l2).symm.trans e1)
  exact g_meth (σ' := q.1) (v := some (.inl q.2)) (by decide) rfl hw hwf hok (Nat.le_of_ble_eq_true rfl) hGo (fun σ2 v2 h => retI_inv h) (by exact e2)

set_option maxRecDepth 100000 in
set_option maxHeartbeats 4000000 in
theorem h_m_swellsKept : g_Ft M_m_swellsKept yX10_swellsKept 3 (FW_m_swellsKept m_swellsKept) := by
  intro l w hw σ as hlen hwf hok ρ k r e
  unfold FW_m_swellsKept at e
  obtain ⟨hh0, e⟩ := p_C_inv e
  obtain ⟨l1, hh1, e⟩ := p_I_inv e
  obtain ⟨l2, hh2, e⟩ := p_I_inv e
  have e := p_E_inv e
  obtain ⟨q, e1, e2⟩ := Option.bind_eq_some_iff.mp e
  have has : as = [.inr (.inr (some (10, 0))), .inl l1, .inl l2] := g_as3 hlen hh0 hh1 hh2
  subst has
  have hGo : g_Go M_m_swellsKept retI (me M_m_swellsKept) 0 (g_loc [.inr (.inr (some (10, 0))), .inl l1, .inl l2] (ml M_m_swellsKept)) [] σ q := by
    have ht : g_Gd M_m_swellsKept retI (me M_m_swellsKept) 0 (t_m_swellsKept m_lies m_isWord m_canSwell m_keeps) := (G_ldIn (n := 2) (nx := 1) (dc28 bs_m_swellsKept (by decide +kernel)) rfl rfl (G_ic (n := 1) (nx := 2) (dc4 bs_m_swellsKept (by decide +kernel)) icv_1 rfl (G_bi (n := 20) (nx := 4) (dc16 (x := 20) bs_m_swellsKept (by decide +kernel) (by decide +kernel)) biv_20 rfl (G_callS (b0 := 0) (nx := 7) (g_Fn_of rfl h_m_lies) (cw_10_132) wd6_74 rfl ⟨by decide, by show 3 ≤ 21; decide⟩ (Nat.zero_le _) (dc184 (x := 0) (y := 132) bs_m_swellsKept (by decide +kernel) rfl) rfl (G_ifne (off := 5) (tg := 12) (nf := 10) (dc154 (x := 0) (y := 5) bs_m_swellsKept (by decide +kernel) (by decide +kernel)) (by decide +kernel) rfl
  (G_ic (n := -1) (nx := 11) (dc2 bs_m_swellsKept (by decide +kernel)) icv_m1 rfl (G_iret rfl (dc172 bs_m_swellsKept (by decide +kernel))))
  (G_ldAn (n := 0) (nx := 13) (dc42 bs_m_swellsKept (by decide +kernel)) rfl rfl (G_ldIn (n := 1) (nx := 14) (dc27 bs_m_swellsKept (by decide +kernel)) rfl rfl (G_callV (b0 := 0) (nx := 17) (T := TX10) (ci := 10) (g_Fn_of rfl h_m_isWord) (cw_10_161) ⟨wd6_109, sel_GalleyRoomModel_isWord__I_Z⟩ ⟨rfl, rfl⟩ ⟨by decide, by show 2 ≤ 21; decide⟩ (Nat.zero_le _) (rec_m_isWord _) (dc182 (x := 0) (y := 161) bs_m_swellsKept (by decide +kernel) rfl) rfl (G_ifne (off := 6) (tg := 23) (nf := 20) (dc154 (x := 0) (y := 6) bs_m_swellsKept (by decide +kernel) (by decide +kernel)) (by decide +kernel) rfl
    (G_bi (n := -2) (nx := 22) (dc16 (x := 254) bs_m_swellsKept (by decide +kernel) (by decide +kernel)) biv_m2 rfl (G_iret rfl (dc172 bs_m_swellsKept (by decide +kernel))))
    (G_ldAn (n := 0) (nx := 24) (dc42 bs_m_swellsKept (by decide +kernel)) rfl rfl (G_getRc (nx := 27) fl_10_24 rf_10_2 (dc180 (x := 0) (y := 24) bs_m_swellsKept (by decide +kernel) rfl) rfl (G_ic (n := 2) (nx := 28) (dc5 bs_m_swellsKept (by decide +kernel)) icv_2 rfl (G_ldIn (n := 1) (nx := 29) (dc27 bs_m_swellsKept (by decide +kernel)) rfl rfl (G_iadd (nx := 30) (dc96 bs_m_swellsKept (by decide +kernel)) rfl (G_iald (nx := 31) ak_43 (dc46 bs_m_swellsKept (by decide +kernel)) rfl (G_stIn (n := 3) (nx := 32) (by show 3 < 4; decide) (dc62 bs_m_swellsKept (by decide +kernel)) rfl rfl (G_ldAn (n := 0) (nx := 33) (dc42 bs_m_swellsKept (by decide +kernel)) rfl rfl (G_ldIn (n := 1) (nx := 34) (dc27 bs_m_swellsKept (by decide +kernel)) rfl rfl (G_ldIn (n := 2) (nx := 35) (dc28 bs_m_swellsKept (by decide +kernel)) rfl rfl (G_callV (b0 := 0) (nx := 38) (T := TX10) (ci := 10) (g_Fn_of rfl h_m_canSwell) (cw_10_431) ⟨wd7_140, sel_GalleyRoomModel_canSwell__II_Z⟩ ⟨rfl, rfl⟩ ⟨by decide, by show 3 ≤ 21; decide⟩ (Nat.zero_le _) (rec_m_canSwell _) (dc182 (x := 1) (y := 175) bs_m_swellsKept (by decide +kernel) rfl) rfl (G_ifne (off := 6) (tg := 44) (nf := 41) (dc154 (x := 0) (y := 6) bs_m_swellsKept (by decide +kernel) (by decide +kernel)) (by decide +kernel) rfl
      (G_bi (n := -3) (nx := 43) (dc16 (x := 253) bs_m_swellsKept (by decide +kernel) (by decide +kernel)) biv_m3 rfl (G_iret rfl (dc172 bs_m_swellsKept (by decide +kernel))))
      (G_ldAn (n := 0) (nx := 45) (dc42 bs_m_swellsKept (by decide +kernel)) rfl rfl (G_ic (n := 2) (nx := 46) (dc5 bs_m_swellsKept (by decide +kernel)) icv_2 rfl (G_callV (b0 := 0) (nx := 49) (T := TX10) (ci := 10) (g_Fn_of rfl h_m_keeps) (cw_10_428) ⟨wd7_116, sel_GalleyRoomModel_keeps__I_V⟩ ⟨rfl, rfl⟩ ⟨by decide, by show 4 ≤ 21; decide⟩ (Nat.zero_le _) (rec_m_keeps _) (dc182 (x := 1) (y := 172) bs_m_swellsKept (by decide +kernel) rfl) rfl (G_ldAn (n := 0) (nx := 50) (dc42 bs_m_swellsKept (by decide +kernel)) rfl rfl (G_getRc (nx := 53) fl_10_24 rf_10_2 (dc180 (x := 0) (y := 24) bs_m_swellsKept (by decide +kernel) rfl) rfl (G_ic (n := 2) (nx := 54) (dc5 bs_m_swellsKept (by decide +kernel)) icv_2 rfl (G_ldIn (n := 1) (nx := 55) (dc27 bs_m_swellsKept (by decide +kernel)) rfl rfl (G_iadd (nx := 56) (dc96 bs_m_swellsKept (by decide +kernel)) rfl (G_ldIn (n := 2) (nx := 57) (dc28 bs_m_swellsKept (by decide +kernel)) rfl rfl (G_iast (nx := 58) ak_43 (by decide) (dc79 bs_m_swellsKept (by decide +kernel)) rfl (G_ldIn (n := 3) (nx := 59) (dc29 bs_m_swellsKept (by decide +kernel)) rfl rfl (G_iret rfl (dc172 bs_m_swellsKept (by decide +kernel)))))))))))))))))))))))))))))))))))
    exact ht _ _ σ q ((e_m_swellsKept m_lies m_isWord m_canSwell m_keeps σ l1 l2).symm.trans e1)
  exact g_meth (σ' := q.1) (v := some (.inl q.2)) (by decide) rfl hw hwf hok (Nat.le_of_ble_eq_true rfl) hGo (fun σ2 v2 h => retI_inv h) (by exact e2)

set_option maxRecDepth 100000 in
set_option maxHeartbeats 4000000 in
theorem h_m_passesKept : g_Ft M_m_passesKept yX10_passesKept 1 (FW_m_passesKept m_passesKept) := by
  intro l w hw σ as hlen hwf hok ρ k r e
  unfold FW_m_passesKept at e
  obtain ⟨hh0, e⟩ := p_C_inv e
  have e := p_E_inv e
  obtain ⟨q, e1, e2⟩ := Option.bind_eq_some_iff.mp e
  have has : as = [.inr (.inr (some (10, 0)))] := g_as1 hlen hh0
  subst has
  have hGo : g_Go M_m_passesKept retI (me M_m_passesKept) 0 (g_loc [.inr (.inr (some (10, 0)))] (ml M_m_passesKept)) [] σ q := by
    have ht : g_Gd M_m_passesKept retI (me M_m_passesKept) 0 (t_m_passesKept m_allOf m_keeps) := (G_ldAn (n := 0) (nx := 1) (dc42 bs_m_passesKept (by decide +kernel)) rfl rfl (G_getRc (nx := 4) fl_10_24 rf_10_2 (dc180 (x := 0) (y := 24) bs_m_passesKept (by decide +kernel) rfl) rfl (G_bi (n := 14) (nx := 6) (dc16 (x := 14) bs_m_passesKept (by decide +kernel) (by decide +kernel)) biv_14 rfl (G_iald (nx := 7) ak_43 (dc46 bs_m_passesKept (by decide +kernel)) rfl (G_si (n := 999) (nx := 10) (dc17 (x := 3) (y := 231) bs_m_passesKept (by decide +kernel) (by decide +kernel)) siv_999 rfl (G_icmpne (off := 6) (tg := 16) (nf := 13) (dc160 (x := 0) (y := 6) bs_m_passesKept (by decide +kernel) (by decide +kernel)) (by decide +kernel) rfl
  (G_bi (n := -3) (nx := 15) (dc16 (x := 253) bs_m_passesKept (by decide +kernel) (by decide +kernel)) biv_m3 rfl (G_iret rfl (dc172 bs_m_passesKept (by decide +kernel))))
  (G_ldAn (n := 0) (nx := 17) (dc42 bs_m_passesKept (by decide +kernel)) rfl rfl (G_ic (n := 2) (nx := 18) (dc5 bs_m_passesKept (by decide +kernel)) icv_2 rfl (G_callV (b0 := 0) (nx := 21) (T := TX10) (ci := 10) (g_Fn_of rfl h_m_allOf) (cw_10_425) ⟨wd7_100, sel_GalleyRoomModel_allOf__I_I⟩ ⟨rfl, rfl⟩ ⟨by decide, by show 4 ≤ 21; decide⟩ (Nat.zero_le _) (rec_m_allOf _) (dc182 (x := 1) (y := 169) bs_m_passesKept (by decide +kernel) rfl) rfl (G_stIn (n := 1) (nx := 22) (by show 1 < 2; decide) (dc60 bs_m_passesKept (by decide +kernel)) rfl rfl (G_ldAn (n := 0) (nx := 23) (dc42 bs_m_passesKept (by decide +kernel)) rfl rfl (G_ic (n := 3) (nx := 24) (dc6 bs_m_passesKept (by decide +kernel)) icv_3 rfl (G_callV (b0 := 0) (nx := 27) (T := TX10) (ci := 10) (g_Fn_of rfl h_m_keeps) (cw_10_428) ⟨wd7_116, sel_GalleyRoomModel_keeps__I_V⟩ ⟨rfl, rfl⟩ ⟨by decide, by show 4 ≤ 21; decide⟩ (Nat.zero_le _) (rec_m_keeps _) (dc182 (x := 1) (y := 172) bs_m_passesKept (by decide +kernel) rfl) rfl (G_ldAn (n := 0) (nx := 28) (dc42 bs_m_passesKept (by decide +kernel)) rfl rfl (G_getRc (nx := 31) fl_10_24 rf_10_2 (dc180 (x := 0) (y := 24) bs_m_passesKept (by decide +kernel) rfl) rfl (G_bi (n := 14) (nx := 33) (dc16 (x := 14) bs_m_passesKept (by decide +kernel) (by decide +kernel)) biv_14 rfl (G_dup2 (nx := 34) (dc92 bs_m_passesKept (by decide +kernel)) rfl (G_iald (nx := 35) ak_43 (dc46 bs_m_passesKept (by decide +kernel)) rfl (G_ic (n := 1) (nx := 36) (dc4 bs_m_passesKept (by decide +kernel)) icv_1 rfl (G_iadd (nx := 37) (dc96 bs_m_passesKept (by decide +kernel)) rfl (G_iast (nx := 38) ak_43 (by decide) (dc79 bs_m_passesKept (by decide +kernel)) rfl (G_ldIn (n := 1) (nx := 39) (dc27 bs_m_passesKept (by decide +kernel)) rfl rfl (G_iret rfl (dc172 bs_m_passesKept (by decide +kernel)))))))))))))))))))))))))
    exact ht _ _ σ q ((e_m_passesKept m_allOf m_keeps σ ).symm.trans e1)
  exact g_meth (σ' := q.1) (v := some (.inl q.2)) (by decide) rfl hw hwf hok (Nat.le_of_ble_eq_true rfl) hGo (fun σ2 v2 h => retI_inv h) (by exact e2)

set_option maxRecDepth 100000 in
set_option maxHeartbeats 4000000 in
theorem h_m_stop : g_Ft M_m_stop yX10_stop 2 (FW_m_stop m_stop) := by
  intro l w hw σ as hlen hwf hok ρ k r e
  unfold FW_m_stop at e
  obtain ⟨hh0, e⟩ := p_C_inv e
  obtain ⟨l1, hh1, e⟩ := p_I_inv e
  have e := p_E_inv e
  obtain ⟨q, e1, e2⟩ := Option.bind_eq_some_iff.mp e
  have has : as = [.inr (.inr (some (10, 0))), .inl l1] := g_as2 hlen hh0 hh1
  subst has
  have hGo : g_Go M_m_stop retI (me M_m_stop) 0 (g_loc [.inr (.inr (some (10, 0))), .inl l1] (ml M_m_stop)) [] σ q := by
    have ht : g_Gd M_m_stop retI (me M_m_stop) 0 (t_m_stop m_stopsKept m_goodOr) := (G_ldAn (n := 0) (nx := 1) (dc42 bs_m_stop (by decide +kernel)) rfl rfl (G_ldAn (n := 0) (nx := 2) (dc42 bs_m_stop (by decide +kernel)) rfl rfl (G_ldIn (n := 1) (nx := 3) (dc27 bs_m_stop (by decide +kernel)) rfl rfl (G_callV (b0 := 0) (nx := 6) (T := TX10) (ci := 10) (g_Fn_of rfl h_m_stopsKept) (cw_10_434) ⟨wd7_112, sel_GalleyRoomModel_stopsKept__I_I⟩ ⟨rfl, rfl⟩ ⟨by decide, by show 2 ≤ 21; decide⟩ (Nat.zero_le _) (rec_m_stopsKept _) (dc182 (x := 1) (y := 178) bs_m_stop (by decide +kernel) rfl) rfl (G_callV (b0 := 0) (nx := 9) (T := TX10) (ci := 10) (g_Fn_of rfl h_m_goodOr) (cw_10_437) ⟨wd7_120, sel_GalleyRoomModel_goodOr__I_I⟩ ⟨rfl, rfl⟩ ⟨by decide, by show 2 ≤ 21; decide⟩ (Nat.zero_le _) (rec_m_goodOr _) (dc182 (x := 1) (y := 181) bs_m_stop (by decide +kernel) rfl) rfl (G_iret rfl (dc172 bs_m_stop (by decide +kernel))))))))
    exact ht _ _ σ q ((e_m_stop m_stopsKept m_goodOr σ l1).symm.trans e1)
  exact g_meth (σ' := q.1) (v := some (.inl q.2)) (by decide) rfl hw hwf hok (Nat.le_of_ble_eq_true rfl) hGo (fun σ2 v2 h => retI_inv h) (by exact e2)

set_option maxRecDepth 100000 in
set_option maxHeartbeats 4000000 in
theorem h_m_split : g_Ft M_m_split yX10_split 2 (FW_m_split m_split) := by
  intro l w hw σ as hlen hwf hok ρ k r e
  unfold FW_m_split at e
  obtain ⟨hh0, e⟩ := p_C_inv e
  obtain ⟨l1, hh1, e⟩ := p_I_inv e
  have e := p_E_inv e
  obtain ⟨q, e1, e2⟩ := Option.bind_eq_some_iff.mp e
  have has : as = [.inr (.inr (some (10, 0))), .inl l1] := g_as2 hlen hh0 hh1
  subst has
  have hGo : g_Go M_m_split retI (me M_m_split) 0 (g_loc [.inr (.inr (some (10, 0))), .inl l1] (ml M_m_split)) [] σ q := by
    have ht : g_Gd M_m_split retI (me M_m_split) 0 (t_m_split m_splitsKept m_goodOr) := (G_ldAn (n := 0) (nx := 1) (dc42 bs_m_split (by decide +kernel)) rfl rfl (G_ldAn (n := 0) (nx := 2) (dc42 bs_m_split (by decide +kernel)) rfl rfl (G_ldIn (n := 1) (nx := 3) (dc27 bs_m_split (by decide +kernel)) rfl rfl (G_callV (b0 := 0) (nx := 6) (T := TX10) (ci := 10) (g_Fn_of rfl h_m_splitsKept) (cw_10_440) ⟨wd7_128, sel_GalleyRoomModel_splitsKept__I_I⟩ ⟨rfl, rfl⟩ ⟨by decide, by show 2 ≤ 21; decide⟩ (Nat.zero_le _) (rec_m_splitsKept _) (dc182 (x := 1) (y := 184) bs_m_split (by decide +kernel) rfl) rfl (G_callV (b0 := 0) (nx := 9) (T := TX10) (ci := 10) (g_Fn_of rfl h_m_goodOr) (cw_10_437) ⟨wd7_120, sel_GalleyRoomModel_goodOr__I_I⟩ ⟨rfl, rfl⟩ ⟨by decide, by show 2 ≤ 21; decide⟩ (Nat.zero_le _) (rec_m_goodOr _) (dc182 (x := 1) (y := 181) bs_m_split (by decide +kernel) rfl) rfl (G_iret rfl (dc172 bs_m_split (by decide +kernel))))))))
    exact ht _ _ σ q ((e_m_split m_splitsKept m_goodOr σ l1).symm.trans e1)
  exact g_meth (σ' := q.1) (v := some (.inl q.2)) (by decide) rfl hw hwf hok (Nat.le_of_ble_eq_true rfl) hGo (fun σ2 v2 h => retI_inv h) (by exact e2)

set_option maxRecDepth 100000 in
set_option maxHeartbeats 4000000 in
theorem h_m_swell : g_Ft M_m_swell yX10_swell 3 (FW_m_swell m_swell) := by
  intro l w hw σ as hlen hwf hok ρ k r e
  unfold FW_m_swell at e
  obtain ⟨hh0, e⟩ := p_C_inv e
  obtain ⟨l1, hh1, e⟩ := p_I_inv e
  obtain ⟨l2, hh2, e⟩ := p_I_inv e
  have e := p_E_inv e
  obtain ⟨q, e1, e2⟩ := Option.bind_eq_some_iff.mp e
  have has : as = [.inr (.inr (some (10, 0))), .inl l1, .inl l2] := g_as3 hlen hh0 hh1 hh2
  subst has
  have hGo : g_Go M_m_swell retI (me M_m_swell) 0 (g_loc [.inr (.inr (some (10, 0))), .inl l1, .inl l2] (ml M_m_swell)) [] σ q := by
    have ht : g_Gd M_m_swell retI (me M_m_swell) 0 (t_m_swell m_swellsKept m_goodOr) := (G_ldAn (n := 0) (nx := 1) (dc42 bs_m_swell (by decide +kernel)) rfl rfl (G_ldAn (n := 0) (nx := 2) (dc42 bs_m_swell (by decide +kernel)) rfl rfl (G_ldIn (n := 1) (nx := 3) (dc27 bs_m_swell (by decide +kernel)) rfl rfl (G_ldIn (n := 2) (nx := 4) (dc28 bs_m_swell (by decide +kernel)) rfl rfl (G_callV (b0 := 0) (nx := 7) (T := TX10) (ci := 10) (g_Fn_of rfl h_m_swellsKept) (cw_10_443) ⟨wd7_136, sel_GalleyRoomModel_swellsKept__II_I⟩ ⟨rfl, rfl⟩ ⟨by decide, by show 4 ≤ 21; decide⟩ (Nat.zero_le _) (rec_m_swellsKept _) (dc182 (x := 1) (y := 187) bs_m_swell (by decide +kernel) rfl) rfl (G_callV (b0 := 0) (nx := 10) (T := TX10) (ci := 10) (g_Fn_of rfl h_m_goodOr) (cw_10_437) ⟨wd7_120, sel_GalleyRoomModel_goodOr__I_I⟩ ⟨rfl, rfl⟩ ⟨by decide, by show 2 ≤ 21; decide⟩ (Nat.zero_le _) (rec_m_goodOr _) (dc182 (x := 1) (y := 181) bs_m_swell (by decide +kernel) rfl) rfl (G_iret rfl (dc172 bs_m_swell (by decide +kernel)))))))))
    exact ht _ _ σ q ((e_m_swell m_swellsKept m_goodOr σ l1 l2).symm.trans e1)
  exact g_meth (σ' := q.1) (v := some (.inl q.2)) (by decide) rfl hw hwf hok (Nat.le_of_ble_eq_true rfl) hGo (fun σ2 v2 h => retI_inv h) (by exact e2)

set_option maxRecDepth 100000 in
set_option maxHeartbeats 4000000 in
theorem h_m_pass : g_Ft M_m_pass yX10_pass 1 (FW_m_pass m_pass) := by
  intro l w hw σ as hlen hwf hok ρ k r e
  unfold FW_m_pass at e
  obtain ⟨hh0, e⟩ := p_C_inv e
  have e := p_E_inv e
  obtain ⟨q, e1, e2⟩ := Option.bind_eq_some_iff.mp e
  have has : as = [.inr (.inr (some (10, 0)))] := g_as1 hlen hh0
  subst has
  have hGo : g_Go M_m_pass retI (me M_m_pass) 0 (g_loc [.inr (.inr (some (10, 0)))] (ml M_m_pass)) [] σ q := by
    have ht : g_Gd M_m_pass retI (me M_m_pass) 0 (t_m_pass m_passesKept m_goodOr) := (G_ldAn (n := 0) (nx := 1) (dc42 bs_m_pass (by decide +kernel)) rfl rfl (G_ldAn (n := 0) (nx := 2) (dc42 bs_m_pass (by decide +kernel)) rfl rfl (G_callV (b0 := 0) (nx := 5) (T := TX10) (ci := 10) (g_Fn_of rfl h_m_passesKept) (cw_10_446) ⟨wd7_148, sel_GalleyRoomModel_passesKept___I⟩ ⟨rfl, rfl⟩ ⟨by decide, by show 2 ≤ 21; decide⟩ (Nat.zero_le _) (rec_m_passesKept _) (dc182 (x := 1) (y := 190) bs_m_pass (by decide +kernel) rfl) rfl (G_callV (b0 := 0) (nx := 8) (T := TX10) (ci := 10) (g_Fn_of rfl h_m_goodOr) (cw_10_437) ⟨wd7_120, sel_GalleyRoomModel_goodOr__I_I⟩ ⟨rfl, rfl⟩ ⟨by decide, by show 2 ≤ 21; decide⟩ (Nat.zero_le _) (rec_m_goodOr _) (dc182 (x := 1) (y := 181) bs_m_pass (by decide +kernel) rfl) rfl (G_iret rfl (dc172 bs_m_pass (by decide +kernel)))))))
    exact ht _ _ σ q ((e_m_pass m_passesKept m_goodOr σ ).symm.trans e1)
  exact g_meth (σ' := q.1) (v := some (.inl q.2)) (by decide) rfl hw hwf hok (Nat.le_of_ble_eq_true rfl) hGo (fun σ2 v2 h => retI_inv h) (by exact e2)

set_option maxRecDepth 100000 in
set_option maxHeartbeats 4000000 in
theorem h_m_lineAt : g_Ft M_m_lineAt yX10_lineAt 3 (FW_m_lineAt m_lineAt) := by
  intro l w hw σ as hlen hwf hok ρ k r e
  unfold FW_m_lineAt at e
  obtain ⟨l0, hh0, e⟩ := p_I_inv e
  obtain ⟨l1, hh1, e⟩ := p_I_inv e
  obtain ⟨l2, hh2, e⟩ := p_I_inv e
  have e := p_E_inv e
  obtain ⟨q, e1, e2⟩ := Option.bind_eq_some_iff.mp e
  have has : as = [.inl l0, .inl l1, .inl l2] := g_as3 hlen hh0 hh1 hh2
  subst has
  have hGo : g_Go M_m_lineAt retI (me M_m_lineAt) 0 (g_loc [.inl l0, .inl l1, .inl l2] (ml M_m_lineAt)) [] σ q := by
    have ht : g_Gd M_m_lineAt retI (me M_m_lineAt) 0 (t_m_lineAt) := (G_ldIn (n := 0) (nx := 1) (dc26 bs_m_lineAt (by decide +kernel)) rfl rfl (G_bi (n := 25) (nx := 3) (dc16 (x := 25) bs_m_lineAt (by decide +kernel) (by decide +kernel)) biv_25 rfl (G_imul (nx := 4) (dc104 bs_m_lineAt (by decide +kernel)) rfl (G_ldIn (n := 1) (nx := 5) (dc27 bs_m_lineAt (by decide +kernel)) rfl rfl (G_iadd (nx := 6) (dc96 bs_m_lineAt (by decide +kernel)) rfl (G_ic (n := 1) (nx := 7) (dc4 bs_m_lineAt (by decide +kernel)) icv_1 rfl (G_iadd (nx := 8) (dc96 bs_m_lineAt (by decide +kernel)) rfl (G_bi (n := 25) (nx := 10) (dc16 (x := 25) bs_m_lineAt (by decide +kernel) (by decide +kernel)) biv_25 rfl (G_imul (nx := 11) (dc104 bs_m_lineAt (by decide +kernel)) rfl (G_ldIn (n := 2) (nx := 12) (dc28 bs_m_lineAt (by decide +kernel)) rfl rfl (G_iadd (nx := 13) (dc96 bs_m_lineAt (by decide +kernel)) rfl (G_iret rfl (dc172 bs_m_lineAt (by decide +kernel))))))))))))))
    exact ht _ _ σ q ((e_m_lineAt  σ l0 l1 l2).symm.trans e1)
  exact g_meth (σ' := q.1) (v := some (.inl q.2)) (by decide) rfl hw hwf hok (Nat.le_of_ble_eq_true rfl) hGo (fun σ2 v2 h => retI_inv h) (by exact e2)

set_option maxRecDepth 100000 in
set_option maxHeartbeats 4000000 in
theorem h_m_stateAt : g_Ft M_m_stateAt yX10_stateAt 2 (FW_m_stateAt m_stateAt) := by
  intro l w hw σ as hlen hwf hok ρ k r e
  unfold FW_m_stateAt at e
  obtain ⟨l0, hh0, e⟩ := p_I_inv e
  obtain ⟨l1, hh1, e⟩ := p_I_inv e
  have e := p_E_inv e
  obtain ⟨q, e1, e2⟩ := Option.bind_eq_some_iff.mp e
  have has : as = [.inl l0, .inl l1] := g_as2 hlen hh0 hh1
  subst has
  have hGo : g_Go M_m_stateAt retI (me M_m_stateAt) 0 (g_loc [.inl l0, .inl l1] (ml M_m_stateAt)) [] σ q := by
    have ht : g_Gd M_m_stateAt retI (me M_m_stateAt) 0 (t_m_stateAt) := (G_ldIn (n := 0) (nx := 1) (dc26 bs_m_stateAt (by decide +kernel)) rfl rfl (G_bi (n := 25) (nx := 3) (dc16 (x := 25) bs_m_stateAt (by decide +kernel) (by decide +kernel)) biv_25 rfl (G_imul (nx := 4) (dc104 bs_m_stateAt (by decide +kernel)) rfl (G_ldIn (n := 1) (nx := 5) (dc27 bs_m_stateAt (by decide +kernel)) rfl rfl (G_iadd (nx := 6) (dc96 bs_m_stateAt (by decide +kernel)) rfl (G_ic (n := 1) (nx := 7) (dc4 bs_m_stateAt (by decide +kernel)) icv_1 rfl (G_iadd (nx := 8) (dc96 bs_m_stateAt (by decide +kernel)) rfl (G_iret rfl (dc172 bs_m_stateAt (by decide +kernel))))))))))
    exact ht _ _ σ q ((e_m_stateAt  σ l0 l1).symm.trans e1)
  exact g_meth (σ' := q.1) (v := some (.inl q.2)) (by decide) rfl hw hwf hok (Nat.le_of_ble_eq_true rfl) hGo (fun σ2 v2 h => retI_inv h) (by exact e2)

set_option maxRecDepth 100000 in
set_option maxHeartbeats 4000000 in
theorem h_m_laysLine : g_Ft M_m_laysLine yX10_laysLine 6 (FW_m_laysLine m_laysLine) := by
  intro l w hw σ as hlen hwf hok ρ k r e
  unfold FW_m_laysLine at e
  obtain ⟨hh0, e⟩ := p_C_inv e
  obtain ⟨l1, hh1, e⟩ := p_I_inv e
  obtain ⟨l2, hh2, e⟩ := p_I_inv e
  obtain ⟨l3, hh3, e⟩ := p_I_inv e
  obtain ⟨l4, hh4, e⟩ := p_I_inv e
  obtain ⟨l5, hh5, e⟩ := p_I_inv e
  have e := p_E_inv e
  obtain ⟨q, e1, e2⟩ := Option.bind_eq_some_iff.mp e
  have has : as = [.inr (.inr (some (10, 0))), .inl l1, .inl l2, .inl l3, .inl l4, .inl l5] := g_as6 hlen hh0 hh1 hh2 hh3 hh4 hh5
  subst has
  have hGo : g_Go M_m_laysLine retV (me M_m_laysLine) 0 (g_loc [.inr (.inr (some (10, 0))), .inl l1, .inl l2, .inl l3, .inl l4, .inl l5] (ml M_m_laysLine)) [] σ q := by
    have ht : g_Gd M_m_laysLine retV (me M_m_laysLine) 0 (t_m_laysLine m_lineAt m_takesLine m_fitsNow m_costsNow m_paysNow) := (G_ldIn (n := 1) (nx := 1) (dc27 bs_m_laysLine (by decide +kernel)) rfl rfl (G_ldIn (n := 2) (nx := 2) (dc28 bs_m_laysLine (by decide +kernel)) rfl rfl (G_ldIn (n := 3) (nx := 3) (dc29 bs_m_laysLine (by decide +kernel)) rfl rfl (G_callS (b0 := 0) (nx := 6) (g_Fn_of rfl h_m_lineAt) (cw_10_456) wd7_171 rfl ⟨by decide, by show 3 ≤ 21; decide⟩ (Nat.zero_le _) (dc184 (x := 1) (y := 200) bs_m_laysLine (by decide +kernel) rfl) rfl (G_stI (nx := 8) (by show 6 < 7; decide) (dc54 (x := 6) bs_m_laysLine (by decide +kernel)) rfl (G_ldAn (n := 0) (nx := 9) (dc42 bs_m_laysLine (by decide +kernel)) rfl rfl (G_ldIn (n := 1) (nx := 10) (dc27 bs_m_laysLine (by decide +kernel)) rfl rfl (G_ldIn (n := 2) (nx := 11) (dc28 bs_m_laysLine (by decide +kernel)) rfl rfl (G_ldIn (n := 3) (nx := 12) (dc29 bs_m_laysLine (by decide +kernel)) rfl rfl (G_ldI (nx := 14) (dc21 (x := 4) bs_m_laysLine (by decide +kernel)) rfl (G_callV (b0 := 0) (nx := 17) (T := TX10) (ci := 10) (g_Fn_of rfl h_m_takesLine) (cw_10_406) ⟨wd7_36, sel_GalleyRoomModel_takesLine__IIII_V⟩ ⟨rfl, rfl⟩ ⟨by decide, by show 7 ≤ 21; decide⟩ (Nat.zero_le _) (rec_m_takesLine _) (dc182 (x := 1) (y := 150) bs_m_laysLine (by decide +kernel) rfl) rfl (G_ldAn (n := 0) (nx := 18) (dc42 bs_m_laysLine (by decide +kernel)) rfl rfl (G_getRc (nx := 21) fl_10_84 rf_10_47 (dc180 (x := 0) (y := 84) bs_m_laysLine (by decide +kernel) rfl) rfl (G_ldI (nx := 23) (dc21 (x := 6) bs_m_laysLine (by decide +kernel)) rfl (G_ldAn (n := 0) (nx := 24) (dc42 bs_m_laysLine (by decide +kernel)) rfl rfl (G_callV (b0 := 0) (nx := 27) (T := TX10) (ci := 10) (g_Fn_of rfl h_m_fitsNow) (cw_10_422) ⟨wd7_92, sel_GalleyRoomModel_fitsNow___Z⟩ ⟨rfl, rfl⟩ ⟨by decide, by show 1 ≤ 21; decide⟩ (Nat.zero_le _) (rec_m_fitsNow _) (dc182 (x := 1) (y := 166) bs_m_laysLine (by decide +kernel) rfl) rfl (G_zast (nx := 28) ak_61 (by decide) (dc84 bs_m_laysLine (by decide +kernel)) rfl (G_ldAn (n := 0) (nx := 29) (dc42 bs_m_laysLine (by decide +kernel)) rfl rfl (G_getRc (nx := 32) fl_10_84 rf_10_47 (dc180 (x := 0) (y := 84) bs_m_laysLine (by decide +kernel) rfl) rfl (G_ldI (nx := 34) (dc21 (x := 6) bs_m_laysLine (by decide +kernel)) rfl (G_zald (nx := 35) ak_61 (dc51 bs_m_laysLine (by decide +kernel)) rfl (G_ifeq (off := 8) (tg := 43) (nf := 38) (dc153 (x := 0) (y := 8) bs_m_laysLine (by decide +kernel) (by decide +kernel)) (by decide +kernel) rfl
  (G_vret rfl (dc177 bs_m_laysLine (by decide +kernel)))
  (G_ldI (nx := 40) (dc21 (x := 5) bs_m_laysLine (by decide +kernel)) rfl (G_ifne (off := 4) (tg := 44) (nf := 43) (dc154 (x := 0) (y := 4) bs_m_laysLine (by decide +kernel) (by decide +kernel)) (by decide +kernel) rfl
    (G_vret rfl (dc177 bs_m_laysLine (by decide +kernel)))
    (G_ldAn (n := 0) (nx := 45) (dc42 bs_m_laysLine (by decide +kernel)) rfl rfl (G_getRc (nx := 48) fl_10_87 rf_10_48 (dc180 (x := 0) (y := 87) bs_m_laysLine (by decide +kernel) rfl) rfl (G_ldI (nx := 50) (dc21 (x := 6) bs_m_laysLine (by decide +kernel)) rfl (G_ldAn (n := 0) (nx := 51) (dc42 bs_m_laysLine (by decide +kernel)) rfl rfl (G_callV (b0 := 0) (nx := 54) (T := TX10) (ci := 10) (g_Fn_of rfl h_m_costsNow) (cw_10_416) ⟨wd7_47, sel_GalleyRoomModel_costsNow___I⟩ ⟨rfl, rfl⟩ ⟨by decide, by show 1 ≤ 21; decide⟩ (Nat.zero_le _) (rec_m_costsNow _) (dc182 (x := 1) (y := 160) bs_m_laysLine (by decide +kernel) rfl) rfl (G_iast (nx := 55) ak_62 (by decide) (dc79 bs_m_laysLine (by decide +kernel)) rfl (G_ldAn (n := 0) (nx := 56) (dc42 bs_m_laysLine (by decide +kernel)) rfl rfl (G_getRc (nx := 59) fl_10_90 rf_10_49 (dc180 (x := 0) (y := 90) bs_m_laysLine (by decide +kernel) rfl) rfl (G_ldI (nx := 61) (dc21 (x := 6) bs_m_laysLine (by decide +kernel)) rfl (G_ldAn (n := 0) (nx := 62) (dc42 bs_m_laysLine (by decide +kernel)) rfl rfl (G_callV (b0 := 0) (nx := 65) (T := TX10) (ci := 10) (g_Fn_of rfl h_m_paysNow) (cw_10_419) ⟨wd7_84, sel_GalleyRoomModel_paysNow___I⟩ ⟨rfl, rfl⟩ ⟨by decide, by show 1 ≤ 21; decide⟩ (Nat.zero_le _) (rec_m_paysNow _) (dc182 (x := 1) (y := 163) bs_m_laysLine (by decide +kernel) rfl) rfl (G_iast (nx := 66) ak_63 (by decide) (dc79 bs_m_laysLine (by decide +kernel)) rfl (G_vret rfl (dc177 bs_m_laysLine (by decide +kernel)))))))))))))))))))))))))))))))))))))))
    exact ht _ _ σ q ((e_m_laysLine m_lineAt m_takesLine m_fitsNow m_costsNow m_paysNow σ l1 l2 l3 l4 l5).symm.trans e1)
  exact g_meth (σ' := q) (v := none) (by decide) rfl hw hwf hok (Nat.le_of_ble_eq_true rfl) hGo (fun σ2 v2 h => retV_inv h) (by exact e2)

set_option maxRecDepth 100000 in
set_option maxHeartbeats 4000000 in
theorem B_m_laysLines_b43 (K2 : Sg → Int32 → Int32 → Int32 → Option Sg) (hK2 : ∀ (s : Sg) (l1 : Int32) (l2 : Int32) (l3 : Int32) (r : Sg), K2 s l1 l2 l3 = some r → g_Go M_m_laysLines retV 0 2 [some (.inr (.inr (some (10, 0)))), some (.inl l1), some (.inl l2), some (.inl l3), none, none] [] s r) (K31 : Sg → Int32 → Int32 → Int32 → Int32 → Option Sg) (hK31 : ∀ (s : Sg) (l1 : Int32) (l2 : Int32) (l3 : Int32) (l4 : Int32) (r : Sg), K31 s l1 l2 l3 l4 = some r → g_Go M_m_laysLines retV 0 31 [some (.inr (.inr (some (10, 0)))), some (.inl l1), some (.inl l2), some (.inl l3), some (.inl l4), none] [] s r) : ∀ (n : Nat) (s : Sg) (l1 : Int32) (l2 : Int32) (l3 : Int32) (l4 : Int32) (l5 : Int32) (r : Sg), m_laysLines_b43 K2 K31 n s l1 l2 l3 l4 l5 = some r → g_Go M_m_laysLines retV 0 43 [some (.inr (.inr (some (10, 0)))), some (.inl l1), some (.inl l2), some (.inl l3), some (.inl l4), some (.inl l5)] [] s r := by
  intro n
  induction n with
  | zero => intro s l1 l2 l3 l4 l5 r h; cases h
  | succ n hK43 =>
    intro s l1 l2 l3 l4 l5 r h
    have ht : g_Gd M_m_laysLines retV 0 43 (t_m_laysLines_b43 K31 (m_laysLines_b43 K2 K31 n) m_isPlace m_laysLine) := (G_ldI (nx := 45) (dc21 (x := 5) bs_m_laysLines (by decide +kernel)) rfl (G_ldIn (n := 3) (nx := 46) (dc29 bs_m_laysLines (by decide +kernel)) rfl rfl (G_ic (n := 1) (nx := 47) (dc4 bs_m_laysLines (by decide +kernel)) icv_1 rfl (G_iadd (nx := 48) (dc96 bs_m_laysLines (by decide +kernel)) rfl (G_icmpgt (off := 29) (tg := 77) (nf := 51) (dc163 (x := 0) (y := 29) bs_m_laysLines (by decide +kernel) (by decide +kernel)) (by decide +kernel) rfl
    (G_inc (n := 1) (nx := 80) (by show 4 < 6; decide) (dc132 (x := 4) (y := 1) bs_m_laysLines (by decide +kernel) (by decide +kernel)) icv_1 rfl (G_goto (off := -49) (nx := 31) (dc167 (x := 255) (y := 207) bs_m_laysLines (by decide +kernel) (by decide +kernel)) (by decide +kernel) (G_lbl (Gp_C <| Gp_I fun a1 => Gp_I fun a2 => Gp_I fun a3 => Gp_I fun a4 => Gp_E fun s r h => hK31 s a1 a2 a3 a4 r h))))
    (G_ldAn (n := 0) (nx := 52) (dc42 bs_m_laysLines (by decide +kernel)) rfl rfl (G_ldI (nx := 54) (dc21 (x := 4) bs_m_laysLines (by decide +kernel)) rfl (G_callV (b0 := 0) (nx := 57) (T := TX10) (ci := 10) (g_Fn_of rfl h_m_isPlace) (cw_10_449) ⟨wd7_164, sel_GalleyRoomModel_isPlace__I_Z⟩ ⟨rfl, rfl⟩ ⟨by decide, by show 2 ≤ 21; decide⟩ (Nat.zero_le _) (rec_m_isPlace _) (dc182 (x := 1) (y := 193) bs_m_laysLines (by decide +kernel) rfl) rfl (G_ifeq (off := 20) (tg := 77) (nf := 60) (dc153 (x := 0) (y := 20) bs_m_laysLines (by decide +kernel) (by decide +kernel)) (by decide +kernel) rfl
      (G_inc (n := 1) (nx := 80) (by show 4 < 6; decide) (dc132 (x := 4) (y := 1) bs_m_laysLines (by decide +kernel) (by decide +kernel)) icv_1 rfl (G_goto (off := -49) (nx := 31) (dc167 (x := 255) (y := 207) bs_m_laysLines (by decide +kernel) (by decide +kernel)) (by decide +kernel) (G_lbl (Gp_C <| Gp_I fun a1 => Gp_I fun a2 => Gp_I fun a3 => Gp_I fun a4 => Gp_E fun s r h => hK31 s a1 a2 a3 a4 r h))))
      (G_ldAn (n := 0) (nx := 61) (dc42 bs_m_laysLines (by decide +kernel)) rfl rfl (G_ldI (nx := 63) (dc21 (x := 5) bs_m_laysLines (by decide +kernel)) rfl (G_ldIn (n := 3) (nx := 64) (dc29 bs_m_laysLines (by decide +kernel)) rfl rfl (G_ldI (nx := 66) (dc21 (x := 4) bs_m_laysLines (by decide +kernel)) rfl (G_ldIn (n := 1) (nx := 67) (dc27 bs_m_laysLines (by decide +kernel)) rfl rfl (G_ldIn (n := 2) (nx := 68) (dc28 bs_m_laysLines (by decide +kernel)) rfl rfl (G_callV (b0 := 0) (nx := 71) (T := TX10) (ci := 10) (g_Fn_of rfl h_m_laysLine) (cw_10_452) ⟨wd7_168, sel_GalleyRoomModel_laysLine__IIIIZ_V⟩ ⟨rfl, rfl⟩ ⟨by decide, by show 7 ≤ 21; decide⟩ (Nat.zero_le _) (rec_m_laysLine _) (dc182 (x := 1) (y := 196) bs_m_laysLines (by decide +kernel) rfl) rfl (G_inc (n := 1) (nx := 74) (by show 5 < 6; decide) (dc132 (x := 5) (y := 1) bs_m_laysLines (by decide +kernel) (by decide +kernel)) icv_1 rfl (G_goto (off := -31) (nx := 43) (dc167 (x := 255) (y := 225) bs_m_laysLines (by decide +kernel) (by decide +kernel)) (by decide +kernel) (G_lbl (Gp_C <| Gp_I fun a1 => Gp_I fun a2 => Gp_I fun a3 => Gp_I fun a4 => Gp_I fun a5 => Gp_E fun s r h => hK43 s a1 a2 a3 a4 a5 r h))))))))))))))))))))
    exact ht _ _ s r ((e_m_laysLines_b43 K31 (m_laysLines_b43 K2 K31 n) m_isPlace m_laysLine s l1 l2 l3 l4 l5).symm.trans h)

set_option maxRecDepth 100000 in
set_option maxHeartbeats 4000000 in
theorem B_m_laysLines_b31 (K2 : Sg → Int32 → Int32 → Int32 → Option Sg) (hK2 : ∀ (s : Sg) (l1 : Int32) (l2 : Int32) (l3 : Int32) (r : Sg), K2 s l1 l2 l3 = some r → g_Go M_m_laysLines retV 0 2 [some (.inr (.inr (some (10, 0)))), some (.inl l1), some (.inl l2), some (.inl l3), none, none] [] s r) : ∀ (n : Nat) (s : Sg) (l1 : Int32) (l2 : Int32) (l3 : Int32) (l4 : Int32) (r : Sg), m_laysLines_b31 K2 n s l1 l2 l3 l4 = some r → g_Go M_m_laysLines retV 0 31 [some (.inr (.inr (some (10, 0)))), some (.inl l1), some (.inl l2), some (.inl l3), some (.inl l4), none] [] s r := by
  intro n
  induction n with
  | zero => intro s l1 l2 l3 l4 r h; cases h
  | succ n hK31 =>
    intro s l1 l2 l3 l4 r h
    have ht : g_Gd M_m_laysLines retV 0 31 (t_m_laysLines_b31 K2 (m_laysLines_b43 K2 (m_laysLines_b31 K2 n) FU) m_lastPlace) := (G_ldI (nx := 33) (dc21 (x := 4) bs_m_laysLines (by decide +kernel)) rfl (G_ldAn (n := 0) (nx := 34) (dc42 bs_m_laysLines (by decide +kernel)) rfl rfl (G_callV (b0 := 0) (nx := 37) (T := TX10) (ci := 10) (g_Fn_of rfl h_m_lastPlace) (cw_10_384) ⟨wd7_59, sel_GalleyRoomModel_lastPlace___I⟩ ⟨rfl, rfl⟩ ⟨by decide, by show 1 ≤ 21; decide⟩ (Nat.zero_le _) (rec_m_lastPlace _) (dc182 (x := 1) (y := 128) bs_m_laysLines (by decide +kernel) rfl) rfl (G_icmpgt (off := 46) (tg := 83) (nf := 40) (dc163 (x := 0) (y := 46) bs_m_laysLines (by decide +kernel) (by decide +kernel)) (by decide +kernel) rfl
    (G_inc (n := 1) (nx := 86) (by show 3 < 6; decide) (dc132 (x := 3) (y := 1) bs_m_laysLines (by decide +kernel) (by decide +kernel)) icv_1 rfl (G_goto (off := -84) (nx := 2) (dc167 (x := 255) (y := 172) bs_m_laysLines (by decide +kernel) (by decide +kernel)) (by decide +kernel) (G_lbl (Gp_C <| Gp_I fun a1 => Gp_I fun a2 => Gp_I fun a3 => Gp_E fun s r h => hK2 s a1 a2 a3 r h))))
    (G_ic (n := 0) (nx := 41) (dc3 bs_m_laysLines (by decide +kernel)) icv_0 rfl (G_stI (nx := 43) (by show 5 < 6; decide) (dc54 (x := 5) bs_m_laysLines (by decide +kernel)) rfl (G_lbl (Gp_C <| Gp_I fun a1 => Gp_I fun a2 => Gp_I fun a3 => Gp_I fun a4 => Gp_I fun a5 => Gp_E fun s r h => B_m_laysLines_b43 K2 hK2 (m_laysLines_b31 K2 n) hK31 FU s a1 a2 a3 a4 a5 r h))))))))
    exact ht _ _ s r ((e_m_laysLines_b31 K2 (m_laysLines_b43 K2 (m_laysLines_b31 K2 n) FU) m_lastPlace s l1 l2 l3 l4).symm.trans h)

set_option maxRecDepth 100000 in
set_option maxHeartbeats 4000000 in
theorem B_m_laysLines_b2 : ∀ (n : Nat) (s : Sg) (l1 : Int32) (l2 : Int32) (l3 : Int32) (r : Sg), m_laysLines_b2 n s l1 l2 l3 = some r → g_Go M_m_laysLines retV 0 2 [some (.inr (.inr (some (10, 0)))), some (.inl l1), some (.inl l2), some (.inl l3), none, none] [] s r := by
  intro n
  induction n with
  | zero => intro s l1 l2 l3 r h; cases h
  | succ n hK2 =>
    intro s l1 l2 l3 r h
    have ht : g_Gd M_m_laysLines retV 0 2 (t_m_laysLines_b2 (m_laysLines_b2 n) (m_laysLines_b31 (m_laysLines_b2 n) FU) m_lastPlace m_isPlace) := (G_ldIn (n := 3) (nx := 3) (dc29 bs_m_laysLines (by decide +kernel)) rfl rfl (G_ldAn (n := 0) (nx := 4) (dc42 bs_m_laysLines (by decide +kernel)) rfl rfl (G_callV (b0 := 0) (nx := 7) (T := TX10) (ci := 10) (g_Fn_of rfl h_m_lastPlace) (cw_10_384) ⟨wd7_59, sel_GalleyRoomModel_lastPlace___I⟩ ⟨rfl, rfl⟩ ⟨by decide, by show 1 ≤ 21; decide⟩ (Nat.zero_le _) (rec_m_lastPlace _) (dc182 (x := 1) (y := 128) bs_m_laysLines (by decide +kernel) rfl) rfl (G_icmpge (off := 82) (tg := 89) (nf := 10) (dc162 (x := 0) (y := 82) bs_m_laysLines (by decide +kernel) (by decide +kernel)) (by decide +kernel) rfl
    (G_ldIn (n := 3) (nx := 11) (dc29 bs_m_laysLines (by decide +kernel)) rfl rfl (G_ic (n := -1) (nx := 12) (dc2 bs_m_laysLines (by decide +kernel)) icv_m1 rfl (G_icmpeq (off := 14) (tg := 26) (nf := 15) (dc159 (x := 0) (y := 14) bs_m_laysLines (by decide +kernel) (by decide +kernel)) (by decide +kernel) rfl
      (G_ldIn (n := 3) (nx := 27) (dc29 bs_m_laysLines (by decide +kernel)) rfl rfl (G_ic (n := 1) (nx := 28) (dc4 bs_m_laysLines (by decide +kernel)) icv_1 rfl (G_iadd (nx := 29) (dc96 bs_m_laysLines (by decide +kernel)) rfl (G_stI (nx := 31) (by show 4 < 6; decide) (dc54 (x := 4) bs_m_laysLines (by decide +kernel)) rfl (G_lbl (Gp_C <| Gp_I fun a1 => Gp_I fun a2 => Gp_I fun a3 => Gp_I fun a4 => Gp_E fun s r h => B_m_laysLines_b31 (m_laysLines_b2 n) hK2 FU s a1 a2 a3 a4 r h))))))
      (G_ldAn (n := 0) (nx := 16) (dc42 bs_m_laysLines (by decide +kernel)) rfl rfl (G_ldIn (n := 3) (nx := 17) (dc29 bs_m_laysLines (by decide +kernel)) rfl rfl (G_callV (b0 := 0) (nx := 20) (T := TX10) (ci := 10) (g_Fn_of rfl h_m_isPlace) (cw_10_449) ⟨wd7_164, sel_GalleyRoomModel_isPlace__I_Z⟩ ⟨rfl, rfl⟩ ⟨by decide, by show 2 ≤ 21; decide⟩ (Nat.zero_le _) (rec_m_isPlace _) (dc182 (x := 1) (y := 193) bs_m_laysLines (by decide +kernel) rfl) rfl (G_ifne (off := 6) (tg := 26) (nf := 23) (dc154 (x := 0) (y := 6) bs_m_laysLines (by decide +kernel) (by decide +kernel)) (by decide +kernel) rfl
        (G_goto (off := 60) (nx := 83) (dc167 (x := 0) (y := 60) bs_m_laysLines (by decide +kernel) (by decide +kernel)) (by decide +kernel) (G_inc (n := 1) (nx := 86) (by show 3 < 6; decide) (dc132 (x := 3) (y := 1) bs_m_laysLines (by decide +kernel) (by decide +kernel)) icv_1 rfl (G_goto (off := -84) (nx := 2) (dc167 (x := 255) (y := 172) bs_m_laysLines (by decide +kernel) (by decide +kernel)) (by decide +kernel) (G_lbl (Gp_C <| Gp_I fun a1 => Gp_I fun a2 => Gp_I fun a3 => Gp_E fun s r h => hK2 s a1 a2 a3 r h)))))
        (G_ldIn (n := 3) (nx := 27) (dc29 bs_m_laysLines (by decide +kernel)) rfl rfl (G_ic (n := 1) (nx := 28) (dc4 bs_m_laysLines (by decide +kernel)) icv_1 rfl (G_iadd (nx := 29) (dc96 bs_m_laysLines (by decide +kernel)) rfl (G_stI (nx := 31) (by show 4 < 6; decide) (dc54 (x := 4) bs_m_laysLines (by decide +kernel)) rfl (G_lbl (Gp_C <| Gp_I fun a1 => Gp_I fun a2 => Gp_I fun a3 => Gp_I fun a4 => Gp_E fun s r h => B_m_laysLines_b31 (m_laysLines_b2 n) hK2 FU s a1 a2 a3 a4 r h)))))))))))))
    (G_vret rfl (dc177 bs_m_laysLines (by decide +kernel)))))))
    exact ht _ _ s r ((e_m_laysLines_b2 (m_laysLines_b2 n) (m_laysLines_b31 (m_laysLines_b2 n) FU) m_lastPlace m_isPlace s l1 l2 l3).symm.trans h)

set_option maxRecDepth 100000 in
set_option maxHeartbeats 4000000 in
theorem h_m_laysLines : g_Ft M_m_laysLines yX10_laysLines 3 (FW_m_laysLines m_laysLines) := by
  intro l w hw σ as hlen hwf hok ρ k r e
  unfold FW_m_laysLines at e
  obtain ⟨hh0, e⟩ := p_C_inv e
  obtain ⟨l1, hh1, e⟩ := p_I_inv e
  obtain ⟨l2, hh2, e⟩ := p_I_inv e
  have e := p_E_inv e
  obtain ⟨q, e1, e2⟩ := Option.bind_eq_some_iff.mp e
  have has : as = [.inr (.inr (some (10, 0))), .inl l1, .inl l2] := g_as3 hlen hh0 hh1 hh2
  subst has
  have hGo : g_Go M_m_laysLines retV (me M_m_laysLines) 0 (g_loc [.inr (.inr (some (10, 0))), .inl l1, .inl l2] (ml M_m_laysLines)) [] σ q := by
    have ht : g_Gd M_m_laysLines retV (me M_m_laysLines) 0 (t_m_laysLines (m_laysLines_b2 FU)) := (G_ic (n := -1) (nx := 1) (dc2 bs_m_laysLines (by decide +kernel)) icv_m1 rfl (G_stIn (n := 3) (nx := 2) (by show 3 < 6; decide) (dc62 bs_m_laysLines (by decide +kernel)) rfl rfl (G_lbl (Gp_C <| Gp_I fun a1 => Gp_I fun a2 => Gp_I fun a3 => Gp_E fun s r h => B_m_laysLines_b2 FU s a1 a2 a3 r h))))
    exact ht _ _ σ q ((e_m_laysLines (m_laysLines_b2 FU) σ l1 l2).symm.trans e1)
  exact g_meth (σ' := q) (v := none) (by decide) rfl hw hwf hok (Nat.le_of_ble_eq_true rfl) hGo (fun σ2 v2 h => retV_inv h) (by exact e2)

set_option maxRecDepth 100000 in
set_option maxHeartbeats 4000000 in
theorem h_m_canLine : g_Ft M_m_canLine yX10_canLine 4 (FW_m_canLine m_canLine) := by
  intro l w hw σ as hlen hwf hok ρ k r e
  unfold FW_m_canLine at e
  obtain ⟨hh0, e⟩ := p_C_inv e
  obtain ⟨l1, hh1, e⟩ := p_I_inv e
  obtain ⟨l2, hh2, e⟩ := p_I_inv e
  obtain ⟨l3, hh3, e⟩ := p_I_inv e
  have e := p_E_inv e
  obtain ⟨q, e1, e2⟩ := Option.bind_eq_some_iff.mp e
  have has : as = [.inr (.inr (some (10, 0))), .inl l1, .inl l2, .inl l3] := g_as4 hlen hh0 hh1 hh2 hh3
  subst has
  have hGo : g_Go M_m_canLine retI (me M_m_canLine) 0 (g_loc [.inr (.inr (some (10, 0))), .inl l1, .inl l2, .inl l3] (ml M_m_canLine)) [] σ q := by
    have ht : g_Gd M_m_canLine retI (me M_m_canLine) 0 (t_m_canLine m_isPlace m_lineAt) := (G_ldAn (n := 0) (nx := 1) (dc42 bs_m_canLine (by decide +kernel)) rfl rfl (G_ldIn (n := 3) (nx := 2) (dc29 bs_m_canLine (by decide +kernel)) rfl rfl (G_callV (b0 := 0) (nx := 5) (T := TX10) (ci := 10) (g_Fn_of rfl h_m_isPlace) (cw_10_449) ⟨wd7_164, sel_GalleyRoomModel_isPlace__I_Z⟩ ⟨rfl, rfl⟩ ⟨by decide, by show 2 ≤ 21; decide⟩ (Nat.zero_le _) (rec_m_isPlace _) (dc182 (x := 1) (y := 193) bs_m_canLine (by decide +kernel) rfl) rfl (G_ifeq (off := 21) (tg := 26) (nf := 8) (dc153 (x := 0) (y := 21) bs_m_canLine (by decide +kernel) (by decide +kernel)) (by decide +kernel) rfl
  (G_ic (n := 0) (nx := 27) (dc3 bs_m_canLine (by decide +kernel)) icv_0 rfl (G_zret rfl (dc172 bs_m_canLine (by decide +kernel))))
  (G_ldAn (n := 0) (nx := 9) (dc42 bs_m_canLine (by decide +kernel)) rfl rfl (G_getRc (nx := 12) fl_10_84 rf_10_47 (dc180 (x := 0) (y := 84) bs_m_canLine (by decide +kernel) rfl) rfl (G_ldIn (n := 1) (nx := 13) (dc27 bs_m_canLine (by decide +kernel)) rfl rfl (G_ldIn (n := 2) (nx := 14) (dc28 bs_m_canLine (by decide +kernel)) rfl rfl (G_ldIn (n := 3) (nx := 15) (dc29 bs_m_canLine (by decide +kernel)) rfl rfl (G_callS (b0 := 0) (nx := 18) (g_Fn_of rfl h_m_lineAt) (cw_10_456) wd7_171 rfl ⟨by decide, by show 3 ≤ 21; decide⟩ (Nat.zero_le _) (dc184 (x := 1) (y := 200) bs_m_canLine (by decide +kernel) rfl) rfl (G_zald (nx := 19) ak_61 (dc51 bs_m_canLine (by decide +kernel)) rfl (G_ifeq (off := 7) (tg := 26) (nf := 22) (dc153 (x := 0) (y := 7) bs_m_canLine (by decide +kernel) (by decide +kernel)) (by decide +kernel) rfl
    (G_ic (n := 0) (nx := 27) (dc3 bs_m_canLine (by decide +kernel)) icv_0 rfl (G_zret rfl (dc172 bs_m_canLine (by decide +kernel))))
    (G_ic (n := 1) (nx := 23) (dc4 bs_m_canLine (by decide +kernel)) icv_1 rfl (G_goto (off := 4) (nx := 27) (dc167 (x := 0) (y := 4) bs_m_canLine (by decide +kernel) (by decide +kernel)) (by decide +kernel) (G_zret rfl (dc172 bs_m_canLine (by decide +kernel)))))))))))))))))
    exact ht _ _ σ q ((e_m_canLine m_isPlace m_lineAt σ l1 l2 l3).symm.trans e1)
  exact g_meth (σ' := q.1) (v := some (.inl q.2)) (by decide) rfl hw hwf hok (Nat.le_of_ble_eq_true rfl) hGo (fun σ2 v2 h => retI_inv h) (by exact e2)

set_option maxRecDepth 100000 in
set_option maxHeartbeats 4000000 in
theorem h_m_isStart : g_Ft M_m_isStart yX10_isStart 2 (FW_m_isStart m_isStart) := by
  intro l w hw σ as hlen hwf hok ρ k r e
  unfold FW_m_isStart at e
  obtain ⟨hh0, e⟩ := p_C_inv e
  obtain ⟨l1, hh1, e⟩ := p_I_inv e
  have e := p_E_inv e
  obtain ⟨q, e1, e2⟩ := Option.bind_eq_some_iff.mp e
  have has : as = [.inr (.inr (some (10, 0))), .inl l1] := g_as2 hlen hh0 hh1
  subst has
  have hGo : g_Go M_m_isStart retI (me M_m_isStart) 0 (g_loc [.inr (.inr (some (10, 0))), .inl l1] (ml M_m_isStart)) [] σ q := by
    have ht : g_Gd M_m_isStart retI (me M_m_isStart) 0 (t_m_isStart m_isPlace) := (G_ldIn (n := 1) (nx := 1) (dc27 bs_m_isStart (by decide +kernel)) rfl rfl (G_ic (n := -1) (nx := 2) (dc2 bs_m_isStart (by decide +kernel)) icv_m1 rfl (G_icmpeq (off := 11) (tg := 13) (nf := 5) (dc159 (x := 0) (y := 11) bs_m_isStart (by decide +kernel) (by decide +kernel)) (by decide +kernel) rfl
  (G_ic (n := 1) (nx := 14) (dc4 bs_m_isStart (by decide +kernel)) icv_1 rfl (G_goto (off := 4) (nx := 18) (dc167 (x := 0) (y := 4) bs_m_isStart (by decide +kernel) (by decide +kernel)) (by decide +kernel) (G_zret rfl (dc172 bs_m_isStart (by decide +kernel)))))
  (G_ldAn (n := 0) (nx := 6) (dc42 bs_m_isStart (by decide +kernel)) rfl rfl (G_ldIn (n := 1) (nx := 7) (dc27 bs_m_isStart (by decide +kernel)) rfl rfl (G_callV (b0 := 0) (nx := 10) (T := TX10) (ci := 10) (g_Fn_of rfl h_m_isPlace) (cw_10_449) ⟨wd7_164, sel_GalleyRoomModel_isPlace__I_Z⟩ ⟨rfl, rfl⟩ ⟨by decide, by show 2 ≤ 21; decide⟩ (Nat.zero_le _) (rec_m_isPlace _) (dc182 (x := 1) (y := 193) bs_m_isStart (by decide +kernel) rfl) rfl (G_ifeq (off := 7) (tg := 17) (nf := 13) (dc153 (x := 0) (y := 7) bs_m_isStart (by decide +kernel) (by decide +kernel)) (by decide +kernel) rfl
    (G_ic (n := 0) (nx := 18) (dc3 bs_m_isStart (by decide +kernel)) icv_0 rfl (G_zret rfl (dc172 bs_m_isStart (by decide +kernel))))
    (G_ic (n := 1) (nx := 14) (dc4 bs_m_isStart (by decide +kernel)) icv_1 rfl (G_goto (off := 4) (nx := 18) (dc167 (x := 0) (y := 4) bs_m_isStart (by decide +kernel) (by decide +kernel)) (by decide +kernel) (G_zret rfl (dc172 bs_m_isStart (by decide +kernel))))))))))))
    exact ht _ _ σ q ((e_m_isStart m_isPlace σ l1).symm.trans e1)
  exact g_meth (σ' := q.1) (v := some (.inl q.2)) (by decide) rfl hw hwf hok (Nat.le_of_ble_eq_true rfl) hGo (fun σ2 v2 h => retI_inv h) (by exact e2)

set_option maxRecDepth 100000 in
set_option maxHeartbeats 4000000 in
theorem B_m_laysLeast_b40 (K5 : Sg → Int32 → Option Sg) (hK5 : ∀ (s : Sg) (l1 : Int32) (r : Sg), K5 s l1 = some r → g_Go M_m_laysLeast retV 0 5 [some (.inr (.inr (some (10, 0)))), some (.inl l1), none, none, none] [] s r) (K12 : Sg → Int32 → Int32 → Option Sg) (hK12 : ∀ (s : Sg) (l1 : Int32) (l2 : Int32) (r : Sg), K12 s l1 l2 = some r → g_Go M_m_laysLeast retV 0 12 [some (.inr (.inr (some (10, 0)))), some (.inl l1), some (.inl l2), none, none] [] s r) : ∀ (n : Nat) (s : Sg) (l1 : Int32) (l2 : Int32) (l3 : Int32) (l4 : Int32) (r : Sg), m_laysLeast_b40 K5 K12 n s l1 l2 l3 l4 = some r → g_Go M_m_laysLeast retV 0 40 [some (.inr (.inr (some (10, 0)))), some (.inl l1), some (.inl l2), some (.inl l3), some (.inl l4)] [] s r := by
  intro n
  induction n with
  | zero => intro s l1 l2 l3 l4 r h; cases h
  | succ n hK40 =>
    intro s l1 l2 l3 l4 r h
    have ht : g_Gd M_m_laysLeast retV 0 40 (t_m_laysLeast_b40 K12 (m_laysLeast_b40 K5 K12 n) m_lastPlace m_isStart m_canLine m_lineAt m_stateAt m_lesser) := (G_ldI (nx := 42) (dc21 (x := 4) bs_m_laysLeast (by decide +kernel)) rfl (G_ldAn (n := 0) (nx := 43) (dc42 bs_m_laysLeast (by decide +kernel)) rfl rfl (G_callV (b0 := 0) (nx := 46) (T := TX10) (ci := 10) (g_Fn_of rfl h_m_lastPlace) (cw_10_384) ⟨wd7_59, sel_GalleyRoomModel_lastPlace___I⟩ ⟨rfl, rfl⟩ ⟨by decide, by show 1 ≤ 21; decide⟩ (Nat.zero_le _) (rec_m_lastPlace _) (dc182 (x := 1) (y := 128) bs_m_laysLeast (by decide +kernel) rfl) rfl (G_icmpgt (off := 59) (tg := 105) (nf := 49) (dc163 (x := 0) (y := 59) bs_m_laysLeast (by decide +kernel) (by decide +kernel)) (by decide +kernel) rfl
    (G_ldAn (n := 0) (nx := 106) (dc42 bs_m_laysLeast (by decide +kernel)) rfl rfl (G_getRc (nx := 109) fl_10_93 rf_10_50 (dc180 (x := 0) (y := 93) bs_m_laysLeast (by decide +kernel) rfl) rfl (G_ldIn (n := 2) (nx := 110) (dc28 bs_m_laysLeast (by decide +kernel)) rfl rfl (G_ldIn (n := 1) (nx := 111) (dc27 bs_m_laysLeast (by decide +kernel)) rfl rfl (G_callS (b0 := 0) (nx := 114) (g_Fn_of rfl h_m_stateAt) (cw_10_466) wd7_187 rfl ⟨by decide, by show 2 ≤ 21; decide⟩ (Nat.zero_le _) (dc184 (x := 1) (y := 210) bs_m_laysLeast (by decide +kernel) rfl) rfl (G_ldIn (n := 3) (nx := 115) (dc29 bs_m_laysLeast (by decide +kernel)) rfl rfl (G_iast (nx := 116) ak_64 (by decide) (dc79 bs_m_laysLeast (by decide +kernel)) rfl (G_inc (n := 1) (nx := 119) (by show 2 < 5; decide) (dc132 (x := 2) (y := 1) bs_m_laysLeast (by decide +kernel) (by decide +kernel)) icv_1 rfl (G_goto (off := -107) (nx := 12) (dc167 (x := 255) (y := 149) bs_m_laysLeast (by decide +kernel) (by decide +kernel)) (by decide +kernel) (G_lbl (Gp_C <| Gp_I fun a1 => Gp_I fun a2 => Gp_E fun s r h => hK12 s a1 a2 r h)))))))))))
    (G_ldAn (n := 0) (nx := 50) (dc42 bs_m_laysLeast (by decide +kernel)) rfl rfl (G_ldIn (n := 1) (nx := 51) (dc27 bs_m_laysLeast (by decide +kernel)) rfl rfl (G_callV (b0 := 0) (nx := 54) (T := TX10) (ci := 10) (g_Fn_of rfl h_m_isStart) (cw_10_460) ⟨wd7_180, sel_GalleyRoomModel_isStart__I_Z⟩ ⟨rfl, rfl⟩ ⟨by decide, by show 2 ≤ 21; decide⟩ (Nat.zero_le _) (rec_m_isStart _) (dc182 (x := 1) (y := 204) bs_m_laysLeast (by decide +kernel) rfl) rfl (G_ifeq (off := 51) (tg := 105) (nf := 57) (dc153 (x := 0) (y := 51) bs_m_laysLeast (by decide +kernel) (by decide +kernel)) (by decide +kernel) rfl
      (G_ldAn (n := 0) (nx := 106) (dc42 bs_m_laysLeast (by decide +kernel)) rfl rfl (G_getRc (nx := 109) fl_10_93 rf_10_50 (dc180 (x := 0) (y := 93) bs_m_laysLeast (by decide +kernel) rfl) rfl (G_ldIn (n := 2) (nx := 110) (dc28 bs_m_laysLeast (by decide +kernel)) rfl rfl (G_ldIn (n := 1) (nx := 111) (dc27 bs_m_laysLeast (by decide +kernel)) rfl rfl (G_callS (b0 := 0) (nx := 114) (g_Fn_of rfl h_m_stateAt) (cw_10_466) wd7_187 rfl ⟨by decide, by show 2 ≤ 21; decide⟩ (Nat.zero_le _) (dc184 (x := 1) (y := 210) bs_m_laysLeast (by decide +kernel) rfl) rfl (G_ldIn (n := 3) (nx := 115) (dc29 bs_m_laysLeast (by decide +kernel)) rfl rfl (G_iast (nx := 116) ak_64 (by decide) (dc79 bs_m_laysLeast (by decide +kernel)) rfl (G_inc (n := 1) (nx := 119) (by show 2 < 5; decide) (dc132 (x := 2) (y := 1) bs_m_laysLeast (by decide +kernel) (by decide +kernel)) icv_1 rfl (G_goto (off := -107) (nx := 12) (dc167 (x := 255) (y := 149) bs_m_laysLeast (by decide +kernel) (by decide +kernel)) (by decide +kernel) (G_lbl (Gp_C <| Gp_I fun a1 => Gp_I fun a2 => Gp_E fun s r h => hK12 s a1 a2 r h)))))))))))
      (G_ldAn (n := 0) (nx := 58) (dc42 bs_m_laysLeast (by decide +kernel)) rfl rfl (G_ldIn (n := 2) (nx := 59) (dc28 bs_m_laysLeast (by decide +kernel)) rfl rfl (G_ldIn (n := 1) (nx := 60) (dc27 bs_m_laysLeast (by decide +kernel)) rfl rfl (G_ldI (nx := 62) (dc21 (x := 4) bs_m_laysLeast (by decide +kernel)) rfl (G_callV (b0 := 0) (nx := 65) (T := TX10) (ci := 10) (g_Fn_of rfl h_m_canLine) (cw_10_463) ⟨wd7_184, sel_GalleyRoomModel_canLine__III_Z⟩ ⟨rfl, rfl⟩ ⟨by decide, by show 4 ≤ 21; decide⟩ (Nat.zero_le _) (rec_m_canLine _) (dc182 (x := 1) (y := 207) bs_m_laysLeast (by decide +kernel) rfl) rfl (G_ifeq (off := 34) (tg := 99) (nf := 68) (dc153 (x := 0) (y := 34) bs_m_laysLeast (by decide +kernel) (by decide +kernel)) (by decide +kernel) rfl
        (G_inc (n := 1) (nx := 102) (by show 4 < 5; decide) (dc132 (x := 4) (y := 1) bs_m_laysLeast (by decide +kernel) (by decide +kernel)) icv_1 rfl (G_goto (off := -62) (nx := 40) (dc167 (x := 255) (y := 194) bs_m_laysLeast (by decide +kernel) (by decide +kernel)) (by decide +kernel) (G_lbl (Gp_C <| Gp_I fun a1 => Gp_I fun a2 => Gp_I fun a3 => Gp_I fun a4 => Gp_E fun s r h => hK40 s a1 a2 a3 a4 r h))))
        (G_ldIn (n := 3) (nx := 69) (dc29 bs_m_laysLeast (by decide +kernel)) rfl rfl (G_ldAn (n := 0) (nx := 70) (dc42 bs_m_laysLeast (by decide +kernel)) rfl rfl (G_getRc (nx := 73) fl_10_87 rf_10_48 (dc180 (x := 0) (y := 87) bs_m_laysLeast (by decide +kernel) rfl) rfl (G_ldIn (n := 2) (nx := 74) (dc28 bs_m_laysLeast (by decide +kernel)) rfl rfl (G_ldIn (n := 1) (nx := 75) (dc27 bs_m_laysLeast (by decide +kernel)) rfl rfl (G_ldI (nx := 77) (dc21 (x := 4) bs_m_laysLeast (by decide +kernel)) rfl (G_callS (b0 := 0) (nx := 80) (g_Fn_of rfl h_m_lineAt) (cw_10_456) wd7_171 rfl ⟨by decide, by show 3 ≤ 21; decide⟩ (Nat.zero_le _) (dc184 (x := 1) (y := 200) bs_m_laysLeast (by decide +kernel) rfl) rfl (G_iald (nx := 81) ak_62 (dc46 bs_m_laysLeast (by decide +kernel)) rfl (G_ldAn (n := 0) (nx := 82) (dc42 bs_m_laysLeast (by decide +kernel)) rfl rfl (G_getRc (nx := 85) fl_10_93 rf_10_50 (dc180 (x := 0) (y := 93) bs_m_laysLeast (by decide +kernel) rfl) rfl (G_ldIn (n := 2) (nx := 86) (dc28 bs_m_laysLeast (by decide +kernel)) rfl rfl (G_ic (n := 1) (nx := 87) (dc4 bs_m_laysLeast (by decide +kernel)) icv_1 rfl (G_iadd (nx := 88) (dc96 bs_m_laysLeast (by decide +kernel)) rfl (G_ldI (nx := 90) (dc21 (x := 4) bs_m_laysLeast (by decide +kernel)) rfl (G_callS (b0 := 0) (nx := 93) (g_Fn_of rfl h_m_stateAt) (cw_10_466) wd7_187 rfl ⟨by decide, by show 2 ≤ 21; decide⟩ (Nat.zero_le _) (dc184 (x := 1) (y := 210) bs_m_laysLeast (by decide +kernel) rfl) rfl (G_iald (nx := 94) ak_64 (dc46 bs_m_laysLeast (by decide +kernel)) rfl (G_iadd (nx := 95) (dc96 bs_m_laysLeast (by decide +kernel)) rfl (G_callS (b0 := 0) (nx := 98) (g_Fn_of rfl h_m_lesser) (cw_10_469) wd7_190 rfl ⟨by decide, by show 2 ≤ 21; decide⟩ (Nat.zero_le _) (dc184 (x := 1) (y := 213) bs_m_laysLeast (by decide +kernel) rfl) rfl (G_stIn (n := 3) (nx := 99) (by show 3 < 5; decide) (dc62 bs_m_laysLeast (by decide +kernel)) rfl rfl (G_inc (n := 1) (nx := 102) (by show 4 < 5; decide) (dc132 (x := 4) (y := 1) bs_m_laysLeast (by decide +kernel) (by decide +kernel)) icv_1 rfl (G_goto (off := -62) (nx := 40) (dc167 (x := 255) (y := 194) bs_m_laysLeast (by decide +kernel) (by decide +kernel)) (by decide +kernel) (G_lbl (Gp_C <| Gp_I fun a1 => Gp_I fun a2 => Gp_I fun a3 => Gp_I fun a4 => Gp_E fun s r h => hK40 s a1 a2 a3 a4 r h)))))))))))))))))))))))))))))))))))))
    exact ht _ _ s r ((e_m_laysLeast_b40 K12 (m_laysLeast_b40 K5 K12 n) m_lastPlace m_isStart m_canLine m_lineAt m_stateAt m_lesser s l1 l2 l3 l4).symm.trans h)

set_option maxRecDepth 100000 in
set_option maxHeartbeats 4000000 in
theorem B_m_laysLeast_b12 (K5 : Sg → Int32 → Option Sg) (hK5 : ∀ (s : Sg) (l1 : Int32) (r : Sg), K5 s l1 = some r → g_Go M_m_laysLeast retV 0 5 [some (.inr (.inr (some (10, 0)))), some (.inl l1), none, none, none] [] s r) : ∀ (n : Nat) (s : Sg) (l1 : Int32) (l2 : Int32) (r : Sg), m_laysLeast_b12 K5 n s l1 l2 = some r → g_Go M_m_laysLeast retV 0 12 [some (.inr (.inr (some (10, 0)))), some (.inl l1), some (.inl l2), none, none] [] s r := by
  intro n
  induction n with
  | zero => intro s l1 l2 r h; cases h
  | succ n hK12 =>
    intro s l1 l2 r h
    have ht : g_Gd M_m_laysLeast retV 0 12 (t_m_laysLeast_b12 K5 (m_laysLeast_b40 K5 (m_laysLeast_b12 K5 n) FU) m_lastPlace) := (G_ldIn (n := 2) (nx := 13) (dc28 bs_m_laysLeast (by decide +kernel)) rfl rfl (G_ldIn (n := 1) (nx := 14) (dc27 bs_m_laysLeast (by decide +kernel)) rfl rfl (G_ic (n := 1) (nx := 15) (dc4 bs_m_laysLeast (by decide +kernel)) icv_1 rfl (G_iadd (nx := 16) (dc96 bs_m_laysLeast (by decide +kernel)) rfl (G_icmpgt (off := 106) (tg := 122) (nf := 19) (dc163 (x := 0) (y := 106) bs_m_laysLeast (by decide +kernel) (by decide +kernel)) (by decide +kernel) rfl
    (G_inc (n := -1) (nx := 125) (by show 1 < 5; decide) (dc132 (x := 1) (y := 255) bs_m_laysLeast (by decide +kernel) (by decide +kernel)) icv_m1 rfl (G_goto (off := -120) (nx := 5) (dc167 (x := 255) (y := 136) bs_m_laysLeast (by decide +kernel) (by decide +kernel)) (by decide +kernel) (G_lbl (Gp_C <| Gp_I fun a1 => Gp_E fun s r h => hK5 s a1 r h))))
    (G_ldIn (n := 1) (nx := 20) (dc27 bs_m_laysLeast (by decide +kernel)) rfl rfl (G_ldAn (n := 0) (nx := 21) (dc42 bs_m_laysLeast (by decide +kernel)) rfl rfl (G_callV (b0 := 0) (nx := 24) (T := TX10) (ci := 10) (g_Fn_of rfl h_m_lastPlace) (cw_10_384) ⟨wd7_59, sel_GalleyRoomModel_lastPlace___I⟩ ⟨rfl, rfl⟩ ⟨by decide, by show 1 ≤ 21; decide⟩ (Nat.zero_le _) (rec_m_lastPlace _) (dc182 (x := 1) (y := 128) bs_m_laysLeast (by decide +kernel) rfl) rfl (G_icmpne (off := 7) (tg := 31) (nf := 27) (dc160 (x := 0) (y := 7) bs_m_laysLeast (by decide +kernel) (by decide +kernel)) (by decide +kernel) rfl
      (G_ic (n := 0) (nx := 28) (dc3 bs_m_laysLeast (by decide +kernel)) icv_0 rfl (G_goto (off := 6) (nx := 34) (dc167 (x := 0) (y := 6) bs_m_laysLeast (by decide +kernel) (by decide +kernel)) (by decide +kernel) (G_stIn (n := 3) (nx := 35) (by show 3 < 5; decide) (dc62 bs_m_laysLeast (by decide +kernel)) rfl rfl (G_ldIn (n := 1) (nx := 36) (dc27 bs_m_laysLeast (by decide +kernel)) rfl rfl (G_ic (n := 1) (nx := 37) (dc4 bs_m_laysLeast (by decide +kernel)) icv_1 rfl (G_iadd (nx := 38) (dc96 bs_m_laysLeast (by decide +kernel)) rfl (G_stI (nx := 40) (by show 4 < 5; decide) (dc54 (x := 4) bs_m_laysLeast (by decide +kernel)) rfl (G_lbl (Gp_C <| Gp_I fun a1 => Gp_I fun a2 => Gp_I fun a3 => Gp_I fun a4 => Gp_E fun s r h => B_m_laysLeast_b40 K5 hK5 (m_laysLeast_b12 K5 n) hK12 FU s a1 a2 a3 a4 r h)))))))))
      (G_ldcw (nx := 34) wd7_177 (dc19 (x := 1) (y := 203) bs_m_laysLeast (by decide +kernel) rfl) rfl (G_stIn (n := 3) (nx := 35) (by show 3 < 5; decide) (dc62 bs_m_laysLeast (by decide +kernel)) rfl rfl (G_ldIn (n := 1) (nx := 36) (dc27 bs_m_laysLeast (by decide +kernel)) rfl rfl (G_ic (n := 1) (nx := 37) (dc4 bs_m_laysLeast (by decide +kernel)) icv_1 rfl (G_iadd (nx := 38) (dc96 bs_m_laysLeast (by decide +kernel)) rfl (G_stI (nx := 40) (by show 4 < 5; decide) (dc54 (x := 4) bs_m_laysLeast (by decide +kernel)) rfl (G_lbl (Gp_C <| Gp_I fun a1 => Gp_I fun a2 => Gp_I fun a3 => Gp_I fun a4 => Gp_E fun s r h => B_m_laysLeast_b40 K5 hK5 (m_laysLeast_b12 K5 n) hK12 FU s a1 a2 a3 a4 r h)))))))))))))))))
    exact ht _ _ s r ((e_m_laysLeast_b12 K5 (m_laysLeast_b40 K5 (m_laysLeast_b12 K5 n) FU) m_lastPlace s l1 l2).symm.trans h)

set_option maxRecDepth 100000 in
set_option maxHeartbeats 4000000 in
theorem B_m_laysLeast_b5 : ∀ (n : Nat) (s : Sg) (l1 : Int32) (r : Sg), m_laysLeast_b5 n s l1 = some r → g_Go M_m_laysLeast retV 0 5 [some (.inr (.inr (some (10, 0)))), some (.inl l1), none, none, none] [] s r := by
  intro n
  induction n with
  | zero => intro s l1 r h; cases h
  | succ n hK5 =>
    intro s l1 r h
    have ht : g_Gd M_m_laysLeast retV 0 5 (t_m_laysLeast_b5 (m_laysLeast_b12 (m_laysLeast_b5 n) FU)) := (G_ldIn (n := 1) (nx := 6) (dc27 bs_m_laysLeast (by decide +kernel)) rfl rfl (G_ic (n := -1) (nx := 7) (dc2 bs_m_laysLeast (by decide +kernel)) icv_m1 rfl (G_icmplt (off := 121) (tg := 128) (nf := 10) (dc161 (x := 0) (y := 121) bs_m_laysLeast (by decide +kernel) (by decide +kernel)) (by decide +kernel) rfl
    (G_vret rfl (dc177 bs_m_laysLeast (by decide +kernel)))
    (G_ic (n := 0) (nx := 11) (dc3 bs_m_laysLeast (by decide +kernel)) icv_0 rfl (G_stIn (n := 2) (nx := 12) (by show 2 < 5; decide) (dc61 bs_m_laysLeast (by decide +kernel)) rfl rfl (G_lbl (Gp_C <| Gp_I fun a1 => Gp_I fun a2 => Gp_E fun s r h => B_m_laysLeast_b12 (m_laysLeast_b5 n) hK5 FU s a1 a2 r h)))))))
    exact ht _ _ s r ((e_m_laysLeast_b5 (m_laysLeast_b12 (m_laysLeast_b5 n) FU) s l1).symm.trans h)

set_option maxRecDepth 100000 in
set_option maxHeartbeats 4000000 in
theorem h_m_laysLeast : g_Ft M_m_laysLeast yX10_laysLeast 1 (FW_m_laysLeast m_laysLeast) := by
  intro l w hw σ as hlen hwf hok ρ k r e
  unfold FW_m_laysLeast at e
  obtain ⟨hh0, e⟩ := p_C_inv e
  have e := p_E_inv e
  obtain ⟨q, e1, e2⟩ := Option.bind_eq_some_iff.mp e
  have has : as = [.inr (.inr (some (10, 0)))] := g_as1 hlen hh0
  subst has
  have hGo : g_Go M_m_laysLeast retV (me M_m_laysLeast) 0 (g_loc [.inr (.inr (some (10, 0)))] (ml M_m_laysLeast)) [] σ q := by
    have ht : g_Gd M_m_laysLeast retV (me M_m_laysLeast) 0 (t_m_laysLeast (m_laysLeast_b5 FU) m_lastPlace) := (G_ldAn (n := 0) (nx := 1) (dc42 bs_m_laysLeast (by decide +kernel)) rfl rfl (G_callV (b0 := 0) (nx := 4) (T := TX10) (ci := 10) (g_Fn_of rfl h_m_lastPlace) (cw_10_384) ⟨wd7_59, sel_GalleyRoomModel_lastPlace___I⟩ ⟨rfl, rfl⟩ ⟨by decide, by show 1 ≤ 21; decide⟩ (Nat.zero_le _) (rec_m_lastPlace _) (dc182 (x := 1) (y := 128) bs_m_laysLeast (by decide +kernel) rfl) rfl (G_stIn (n := 1) (nx := 5) (by show 1 < 5; decide) (dc60 bs_m_laysLeast (by decide +kernel)) rfl rfl (G_lbl (Gp_C <| Gp_I fun a1 => Gp_E fun s r h => B_m_laysLeast_b5 FU s a1 r h)))))
    exact ht _ _ σ q ((e_m_laysLeast (m_laysLeast_b5 FU) m_lastPlace σ ).symm.trans e1)
  exact g_meth (σ' := q) (v := none) (by decide) rfl hw hwf hok (Nat.le_of_ble_eq_true rfl) hGo (fun σ2 v2 h => retV_inv h) (by exact e2)

set_option maxRecDepth 100000 in
set_option maxHeartbeats 4000000 in
theorem h_m_bestNow : g_Ft M_m_bestNow yX10_bestNow 1 (FW_m_bestNow m_bestNow) := by
  intro l w hw σ as hlen hwf hok ρ k r e
  unfold FW_m_bestNow at e
  obtain ⟨hh0, e⟩ := p_C_inv e
  have e := p_E_inv e
  obtain ⟨q, e1, e2⟩ := Option.bind_eq_some_iff.mp e
  have has : as = [.inr (.inr (some (10, 0)))] := g_as1 hlen hh0
  subst has
  have hGo : g_Go M_m_bestNow retI (me M_m_bestNow) 0 (g_loc [.inr (.inr (some (10, 0)))] (ml M_m_bestNow)) [] σ q := by
    have ht : g_Gd M_m_bestNow retI (me M_m_bestNow) 0 (t_m_bestNow m_laysLines m_laysLeast m_stateAt) := (G_ldAn (n := 0) (nx := 1) (dc42 bs_m_bestNow (by decide +kernel)) rfl rfl (G_ldAn (n := 0) (nx := 2) (dc42 bs_m_bestNow (by decide +kernel)) rfl rfl (G_getRc (nx := 5) fl_10_24 rf_10_2 (dc180 (x := 0) (y := 24) bs_m_bestNow (by decide +kernel) rfl) rfl (G_bi (n := 53) (nx := 7) (dc16 (x := 53) bs_m_bestNow (by decide +kernel) (by decide +kernel)) biv_53 rfl (G_iald (nx := 8) ak_43 (dc46 bs_m_bestNow (by decide +kernel)) rfl (G_ic (n := 1) (nx := 9) (dc4 bs_m_bestNow (by decide +kernel)) icv_1 rfl (G_callV (b0 := 0) (nx := 12) (T := TX10) (ci := 10) (g_Fn_of rfl h_m_laysLines) (cw_10_472) ⟨wd7_160, sel_GalleyRoomModel_laysLines__IZ_V⟩ ⟨rfl, rfl⟩ ⟨by decide, by show 6 ≤ 21; decide⟩ (Nat.zero_le _) (rec_m_laysLines _) (dc182 (x := 1) (y := 216) bs_m_bestNow (by decide +kernel) rfl) rfl (G_ldAn (n := 0) (nx := 13) (dc42 bs_m_bestNow (by decide +kernel)) rfl rfl (G_callV (b0 := 0) (nx := 16) (T := TX10) (ci := 10) (g_Fn_of rfl h_m_laysLeast) (cw_10_476) ⟨wd7_175, sel_GalleyRoomModel_laysLeast___V⟩ ⟨rfl, rfl⟩ ⟨by decide, by show 5 ≤ 21; decide⟩ (Nat.zero_le _) (rec_m_laysLeast _) (dc182 (x := 1) (y := 220) bs_m_bestNow (by decide +kernel) rfl) rfl (G_ldAn (n := 0) (nx := 17) (dc42 bs_m_bestNow (by decide +kernel)) rfl rfl (G_getRc (nx := 20) fl_10_93 rf_10_50 (dc180 (x := 0) (y := 93) bs_m_bestNow (by decide +kernel) rfl) rfl (G_ic (n := 0) (nx := 21) (dc3 bs_m_bestNow (by decide +kernel)) icv_0 rfl (G_ic (n := -1) (nx := 22) (dc2 bs_m_bestNow (by decide +kernel)) icv_m1 rfl (G_callS (b0 := 0) (nx := 25) (g_Fn_of rfl h_m_stateAt) (cw_10_466) wd7_187 rfl ⟨by decide, by show 2 ≤ 21; decide⟩ (Nat.zero_le _) (dc184 (x := 1) (y := 210) bs_m_bestNow (by decide +kernel) rfl) rfl (G_iald (nx := 26) ak_64 (dc46 bs_m_bestNow (by decide +kernel)) rfl (G_stIn (n := 1) (nx := 27) (by show 1 < 2; decide) (dc60 bs_m_bestNow (by decide +kernel)) rfl rfl (G_ldIn (n := 1) (nx := 28) (dc27 bs_m_bestNow (by decide +kernel)) rfl rfl (G_ldcw (nx := 31) wd7_177 (dc19 (x := 1) (y := 203) bs_m_bestNow (by decide +kernel) rfl) rfl (G_icmplt (off := 7) (tg := 38) (nf := 34) (dc161 (x := 0) (y := 7) bs_m_bestNow (by decide +kernel) (by decide +kernel)) (by decide +kernel) rfl
  (G_ldIn (n := 1) (nx := 39) (dc27 bs_m_bestNow (by decide +kernel)) rfl rfl (G_iret rfl (dc172 bs_m_bestNow (by decide +kernel))))
  (G_ic (n := -1) (nx := 35) (dc2 bs_m_bestNow (by decide +kernel)) icv_m1 rfl (G_goto (off := 4) (nx := 39) (dc167 (x := 0) (y := 4) bs_m_bestNow (by decide +kernel) (by decide +kernel)) (by decide +kernel) (G_iret rfl (dc172 bs_m_bestNow (by decide +kernel))))))))))))))))))))))))
    exact ht _ _ σ q ((e_m_bestNow m_laysLines m_laysLeast m_stateAt σ ).symm.trans e1)
  exact g_meth (σ' := q.1) (v := some (.inl q.2)) (by decide) rfl hw hwf hok (Nat.le_of_ble_eq_true rfl) hGo (fun σ2 v2 h => retI_inv h) (by exact e2)

set_option maxRecDepth 100000 in
set_option maxHeartbeats 4000000 in
theorem B_m_best_b50 (K29 : Sg → Int32 → Int32 → Int32 → Option (Sg × Int32)) (hK29 : ∀ (s : Sg) (l1 : Int32) (l3 : Int32) (l4 : Int32) (r : (Sg × Int32)), K29 s l1 l3 l4 = some r → g_Go M_m_best retI 0 29 [some (.inr (.inr (some (10, 0)))), some (.inl l1), none, some (.inl l3), some (.inl l4), none] [] s r) : ∀ (n : Nat) (s : Sg) (l1 : Int32) (l3 : Int32) (l4 : Int32) (l5 : Int32) (r : (Sg × Int32)), m_best_b50 K29 n s l1 l3 l4 l5 = some r → g_Go M_m_best retI 0 50 [some (.inr (.inr (some (10, 0)))), some (.inl l1), none, some (.inl l3), some (.inl l4), some (.inl l5)] [] s r := by
  intro n
  induction n with
  | zero => intro s l1 l3 l4 l5 r h; cases h
  | succ n hK50 =>
    intro s l1 l3 l4 l5 r h
    have ht : g_Gd M_m_best retI 0 50 (t_m_best_b50 K29 (m_best_b50 K29 n) m_canLine m_lineAt m_stateAt) := (G_ldAn (n := 0) (nx := 51) (dc42 bs_m_best (by decide +kernel)) rfl rfl (G_ldI (nx := 53) (dc21 (x := 4) bs_m_best (by decide +kernel)) rfl (G_ldIn (n := 3) (nx := 54) (dc29 bs_m_best (by decide +kernel)) rfl rfl (G_ldI (nx := 56) (dc21 (x := 5) bs_m_best (by decide +kernel)) rfl (G_callV (b0 := 0) (nx := 59) (T := TX10) (ci := 10) (g_Fn_of rfl h_m_canLine) (cw_10_463) ⟨wd7_184, sel_GalleyRoomModel_canLine__III_Z⟩ ⟨rfl, rfl⟩ ⟨by decide, by show 4 ≤ 21; decide⟩ (Nat.zero_le _) (rec_m_canLine _) (dc182 (x := 1) (y := 207) bs_m_best (by decide +kernel) rfl) rfl (G_ifeq (off := 45) (tg := 104) (nf := 62) (dc153 (x := 0) (y := 45) bs_m_best (by decide +kernel) (by decide +kernel)) (by decide +kernel) rfl
    (G_inc (n := 1) (nx := 107) (by show 5 < 6; decide) (dc132 (x := 5) (y := 1) bs_m_best (by decide +kernel) (by decide +kernel)) icv_1 rfl (G_goto (off := -57) (nx := 50) (dc167 (x := 255) (y := 199) bs_m_best (by decide +kernel) (by decide +kernel)) (by decide +kernel) (G_lbl (Gp_C <| Gp_I fun a1 => Gp_I fun a3 => Gp_I fun a4 => Gp_I fun a5 => Gp_E fun s r h => hK50 s a1 a3 a4 a5 r h))))
    (G_ldAn (n := 0) (nx := 63) (dc42 bs_m_best (by decide +kernel)) rfl rfl (G_getRc (nx := 66) fl_10_87 rf_10_48 (dc180 (x := 0) (y := 87) bs_m_best (by decide +kernel) rfl) rfl (G_ldI (nx := 68) (dc21 (x := 4) bs_m_best (by decide +kernel)) rfl (G_ldIn (n := 3) (nx := 69) (dc29 bs_m_best (by decide +kernel)) rfl rfl (G_ldI (nx := 71) (dc21 (x := 5) bs_m_best (by decide +kernel)) rfl (G_callS (b0 := 0) (nx := 74) (g_Fn_of rfl h_m_lineAt) (cw_10_456) wd7_171 rfl ⟨by decide, by show 3 ≤ 21; decide⟩ (Nat.zero_le _) (dc184 (x := 1) (y := 200) bs_m_best (by decide +kernel) rfl) rfl (G_iald (nx := 75) ak_62 (dc46 bs_m_best (by decide +kernel)) rfl (G_ldAn (n := 0) (nx := 76) (dc42 bs_m_best (by decide +kernel)) rfl rfl (G_getRc (nx := 79) fl_10_93 rf_10_50 (dc180 (x := 0) (y := 93) bs_m_best (by decide +kernel) rfl) rfl (G_ldI (nx := 81) (dc21 (x := 4) bs_m_best (by decide +kernel)) rfl (G_ic (n := 1) (nx := 82) (dc4 bs_m_best (by decide +kernel)) icv_1 rfl (G_iadd (nx := 83) (dc96 bs_m_best (by decide +kernel)) rfl (G_ldI (nx := 85) (dc21 (x := 5) bs_m_best (by decide +kernel)) rfl (G_callS (b0 := 0) (nx := 88) (g_Fn_of rfl h_m_stateAt) (cw_10_466) wd7_187 rfl ⟨by decide, by show 2 ≤ 21; decide⟩ (Nat.zero_le _) (dc184 (x := 1) (y := 210) bs_m_best (by decide +kernel) rfl) rfl (G_iald (nx := 89) ak_64 (dc46 bs_m_best (by decide +kernel)) rfl (G_iadd (nx := 90) (dc96 bs_m_best (by decide +kernel)) rfl (G_ldAn (n := 0) (nx := 91) (dc42 bs_m_best (by decide +kernel)) rfl rfl (G_getRc (nx := 94) fl_10_93 rf_10_50 (dc180 (x := 0) (y := 93) bs_m_best (by decide +kernel) rfl) rfl (G_ldI (nx := 96) (dc21 (x := 4) bs_m_best (by decide +kernel)) rfl (G_ldIn (n := 3) (nx := 97) (dc29 bs_m_best (by decide +kernel)) rfl rfl (G_callS (b0 := 0) (nx := 100) (g_Fn_of rfl h_m_stateAt) (cw_10_466) wd7_187 rfl ⟨by decide, by show 2 ≤ 21; decide⟩ (Nat.zero_le _) (dc184 (x := 1) (y := 210) bs_m_best (by decide +kernel) rfl) rfl (G_iald (nx := 101) ak_64 (dc46 bs_m_best (by decide +kernel)) rfl (G_icmpeq (off := 9) (tg := 110) (nf := 104) (dc159 (x := 0) (y := 9) bs_m_best (by decide +kernel) (by decide +kernel)) (by decide +kernel) rfl
      (G_ldI (nx := 112) (dc21 (x := 5) bs_m_best (by decide +kernel)) rfl (G_stIn (n := 3) (nx := 113) (by show 3 < 6; decide) (dc62 bs_m_best (by decide +kernel)) rfl rfl (G_inc (n := 1) (nx := 116) (by show 4 < 6; decide) (dc132 (x := 4) (y := 1) bs_m_best (by decide +kernel) (by decide +kernel)) icv_1 rfl (G_goto (off := -87) (nx := 29) (dc167 (x := 255) (y := 169) bs_m_best (by decide +kernel) (by decide +kernel)) (by decide +kernel) (G_lbl (Gp_C <| Gp_I fun a1 => Gp_I fun a3 => Gp_I fun a4 => Gp_E fun s r h => hK29 s a1 a3 a4 r h))))))
      (G_inc (n := 1) (nx := 107) (by show 5 < 6; decide) (dc132 (x := 5) (y := 1) bs_m_best (by decide +kernel) (by decide +kernel)) icv_1 rfl (G_goto (off := -57) (nx := 50) (dc167 (x := 255) (y := 199) bs_m_best (by decide +kernel) (by decide +kernel)) (by decide +kernel) (G_lbl (Gp_C <| Gp_I fun a1 => Gp_I fun a3 => Gp_I fun a4 => Gp_I fun a5 => Gp_E fun s r h => hK50 s a1 a3 a4 a5 r h)))))))))))))))))))))))))))))))))
    exact ht _ _ s r ((e_m_best_b50 K29 (m_best_b50 K29 n) m_canLine m_lineAt m_stateAt s l1 l3 l4 l5).symm.trans h)

set_option maxRecDepth 100000 in
set_option maxHeartbeats 4000000 in
theorem B_m_best_b29 : ∀ (n : Nat) (s : Sg) (l1 : Int32) (l3 : Int32) (l4 : Int32) (r : (Sg × Int32)), m_best_b29 n s l1 l3 l4 = some r → g_Go M_m_best retI 0 29 [some (.inr (.inr (some (10, 0)))), some (.inl l1), none, some (.inl l3), some (.inl l4), none] [] s r := by
  intro n
  induction n with
  | zero => intro s l1 l3 l4 r h; cases h
  | succ n hK29 =>
    intro s l1 l3 l4 r h
    have ht : g_Gd M_m_best retI 0 29 (t_m_best_b29 (m_best_b50 (m_best_b29 n) FU) m_lastPlace) := (G_ldI (nx := 31) (dc21 (x := 4) bs_m_best (by decide +kernel)) rfl (G_ldIn (n := 1) (nx := 32) (dc27 bs_m_best (by decide +kernel)) rfl rfl (G_icmpgt (off := 87) (tg := 119) (nf := 35) (dc163 (x := 0) (y := 87) bs_m_best (by decide +kernel) (by decide +kernel)) (by decide +kernel) rfl
    (G_ldIn (n := 3) (nx := 120) (dc29 bs_m_best (by decide +kernel)) rfl rfl (G_iret rfl (dc172 bs_m_best (by decide +kernel))))
    (G_ldIn (n := 3) (nx := 36) (dc29 bs_m_best (by decide +kernel)) rfl rfl (G_ldAn (n := 0) (nx := 37) (dc42 bs_m_best (by decide +kernel)) rfl rfl (G_callV (b0 := 0) (nx := 40) (T := TX10) (ci := 10) (g_Fn_of rfl h_m_lastPlace) (cw_10_384) ⟨wd7_59, sel_GalleyRoomModel_lastPlace___I⟩ ⟨rfl, rfl⟩ ⟨by decide, by show 1 ≤ 21; decide⟩ (Nat.zero_le _) (rec_m_lastPlace _) (dc182 (x := 1) (y := 128) bs_m_best (by decide +kernel) rfl) rfl (G_icmpne (off := 5) (tg := 45) (nf := 43) (dc160 (x := 0) (y := 5) bs_m_best (by decide +kernel) (by decide +kernel)) (by decide +kernel) rfl
      (G_ic (n := -1) (nx := 44) (dc2 bs_m_best (by decide +kernel)) icv_m1 rfl (G_iret rfl (dc172 bs_m_best (by decide +kernel))))
      (G_ldIn (n := 3) (nx := 46) (dc29 bs_m_best (by decide +kernel)) rfl rfl (G_ic (n := 1) (nx := 47) (dc4 bs_m_best (by decide +kernel)) icv_1 rfl (G_iadd (nx := 48) (dc96 bs_m_best (by decide +kernel)) rfl (G_stI (nx := 50) (by show 5 < 6; decide) (dc54 (x := 5) bs_m_best (by decide +kernel)) rfl (G_lbl (Gp_C <| Gp_I fun a1 => Gp_I fun a3 => Gp_I fun a4 => Gp_I fun a5 => Gp_E fun s r h => B_m_best_b50 (m_best_b29 n) hK29 FU s a1 a3 a4 a5 r h)))))))))))))
    exact ht _ _ s r ((e_m_best_b29 (m_best_b50 (m_best_b29 n) FU) m_lastPlace s l1 l3 l4).symm.trans h)

set_option maxRecDepth 100000 in
set_option maxHeartbeats 4000000 in
theorem h_m_best : g_Ft M_m_best yX10_best 2 (FW_m_best m_best) := by
  intro l w hw σ as hlen hwf hok ρ k r e
  unfold FW_m_best at e
  obtain ⟨hh0, e⟩ := p_C_inv e
  obtain ⟨l1, hh1, e⟩ := p_I_inv e
  have e := p_E_inv e
  obtain ⟨q, e1, e2⟩ := Option.bind_eq_some_iff.mp e
  have has : as = [.inr (.inr (some (10, 0))), .inl l1] := g_as2 hlen hh0 hh1
  subst has
  have hGo : g_Go M_m_best retI (me M_m_best) 0 (g_loc [.inr (.inr (some (10, 0))), .inl l1] (ml M_m_best)) [] σ q := by
    have ht : g_Gd M_m_best retI (me M_m_best) 0 (t_m_best (m_best_b29 FU) m_bestNow) := (G_ldIn (n := 1) (nx := 1) (dc27 bs_m_best (by decide +kernel)) rfl rfl (G_ic (n := -1) (nx := 2) (dc2 bs_m_best (by decide +kernel)) icv_m1 rfl (G_icmpge (off := 5) (tg := 7) (nf := 5) (dc162 (x := 0) (y := 5) bs_m_best (by decide +kernel) (by decide +kernel)) (by decide +kernel) rfl
  (G_ic (n := -1) (nx := 6) (dc2 bs_m_best (by decide +kernel)) icv_m1 rfl (G_iret rfl (dc172 bs_m_best (by decide +kernel))))
  (G_ldAn (n := 0) (nx := 8) (dc42 bs_m_best (by decide +kernel)) rfl rfl (G_callV (b0 := 0) (nx := 11) (T := TX10) (ci := 10) (g_Fn_of rfl h_m_bestNow) (cw_10_479) ⟨wd7_156, sel_GalleyRoomModel_bestNow___I⟩ ⟨rfl, rfl⟩ ⟨by decide, by show 2 ≤ 21; decide⟩ (Nat.zero_le _) (rec_m_bestNow _) (dc182 (x := 1) (y := 223) bs_m_best (by decide +kernel) rfl) rfl (G_stIn (n := 2) (nx := 12) (by show 2 < 6; decide) (dc61 bs_m_best (by decide +kernel)) rfl rfl (G_ldIn (n := 2) (nx := 13) (dc28 bs_m_best (by decide +kernel)) rfl rfl (G_ic (n := -1) (nx := 14) (dc2 bs_m_best (by decide +kernel)) icv_m1 rfl (G_icmpeq (off := 8) (tg := 22) (nf := 17) (dc159 (x := 0) (y := 8) bs_m_best (by decide +kernel) (by decide +kernel)) (by decide +kernel) rfl
    (G_ldIn (n := 2) (nx := 23) (dc28 bs_m_best (by decide +kernel)) rfl rfl (G_iret rfl (dc172 bs_m_best (by decide +kernel))))
    (G_ldIn (n := 1) (nx := 18) (dc27 bs_m_best (by decide +kernel)) rfl rfl (G_ic (n := -1) (nx := 19) (dc2 bs_m_best (by decide +kernel)) icv_m1 rfl (G_icmpne (off := 5) (tg := 24) (nf := 22) (dc160 (x := 0) (y := 5) bs_m_best (by decide +kernel) (by decide +kernel)) (by decide +kernel) rfl
      (G_ldIn (n := 2) (nx := 23) (dc28 bs_m_best (by decide +kernel)) rfl rfl (G_iret rfl (dc172 bs_m_best (by decide +kernel))))
      (G_ic (n := -1) (nx := 25) (dc2 bs_m_best (by decide +kernel)) icv_m1 rfl (G_stIn (n := 3) (nx := 26) (by show 3 < 6; decide) (dc62 bs_m_best (by decide +kernel)) rfl rfl (G_ic (n := 0) (nx := 27) (dc3 bs_m_best (by decide +kernel)) icv_0 rfl (G_stI (nx := 29) (by show 4 < 6; decide) (dc54 (x := 4) bs_m_best (by decide +kernel)) rfl (G_lbl (Gp_C <| Gp_I fun a1 => Gp_I fun a3 => Gp_I fun a4 => Gp_E fun s r h => B_m_best_b29 FU s a1 a3 a4 r h))))))))))))))))))
    exact ht _ _ σ q ((e_m_best (m_best_b29 FU) m_bestNow σ l1).symm.trans e1)
  exact g_meth (σ' := q.1) (v := some (.inl q.2)) (by decide) rfl hw hwf hok (Nat.le_of_ble_eq_true rfl) hGo (fun σ2 v2 h => retI_inv h) (by exact e2)

set_option maxRecDepth 100000 in
set_option maxHeartbeats 4000000 in
theorem h_m_takesSum : g_Ft M_m_takesSum yX10_takesSum 5 (FW_m_takesSum m_takesSum) := by
  intro l w hw σ as hlen hwf hok ρ k r e
  unfold FW_m_takesSum at e
  obtain ⟨hh0, e⟩ := p_C_inv e
  obtain ⟨l1, hh1, e⟩ := p_I_inv e
  obtain ⟨l2, hh2, e⟩ := p_I_inv e
  obtain ⟨l3, hh3, e⟩ := p_I_inv e
  obtain ⟨l4, hh4, e⟩ := p_I_inv e
  have e := p_E_inv e
  obtain ⟨q, e1, e2⟩ := Option.bind_eq_some_iff.mp e
  have has : as = [.inr (.inr (some (10, 0))), .inl l1, .inl l2, .inl l3, .inl l4] := g_as5 hlen hh0 hh1 hh2 hh3 hh4
  subst has
  have hGo : g_Go M_m_takesSum retV (me M_m_takesSum) 0 (g_loc [.inr (.inr (some (10, 0))), .inl l1, .inl l2, .inl l3, .inl l4] (ml M_m_takesSum)) [] σ q := by
    have ht : g_Gd M_m_takesSum retV (me M_m_takesSum) 0 (t_m_takesSum m_stateAt m_lineAt m_greater m_lesser) := (G_ldAn (n := 0) (nx := 1) (dc42 bs_m_takesSum (by decide +kernel)) rfl rfl (G_getRc (nx := 4) fl_10_93 rf_10_50 (dc180 (x := 0) (y := 93) bs_m_takesSum (by decide +kernel) rfl) rfl (G_ldIn (n := 1) (nx := 5) (dc27 bs_m_takesSum (by decide +kernel)) rfl rfl (G_ldIn (n := 2) (nx := 6) (dc28 bs_m_takesSum (by decide +kernel)) rfl rfl (G_callS (b0 := 0) (nx := 9) (g_Fn_of rfl h_m_stateAt) (cw_10_466) wd7_187 rfl ⟨by decide, by show 2 ≤ 21; decide⟩ (Nat.zero_le _) (dc184 (x := 1) (y := 210) bs_m_takesSum (by decide +kernel) rfl) rfl (G_iald (nx := 10) ak_64 (dc46 bs_m_takesSum (by decide +kernel)) rfl (G_stI (nx := 12) (by show 5 < 7; decide) (dc54 (x := 5) bs_m_takesSum (by decide +kernel)) rfl (G_ldIn (n := 1) (nx := 13) (dc27 bs_m_takesSum (by decide +kernel)) rfl rfl (G_ic (n := 1) (nx := 14) (dc4 bs_m_takesSum (by decide +kernel)) icv_1 rfl (G_iadd (nx := 15) (dc96 bs_m_takesSum (by decide +kernel)) rfl (G_ldIn (n := 3) (nx := 16) (dc29 bs_m_takesSum (by decide +kernel)) rfl rfl (G_callS (b0 := 0) (nx := 19) (g_Fn_of rfl h_m_stateAt) (cw_10_466) wd7_187 rfl ⟨by decide, by show 2 ≤ 21; decide⟩ (Nat.zero_le _) (dc184 (x := 1) (y := 210) bs_m_takesSum (by decide +kernel) rfl) rfl (G_stI (nx := 21) (by show 6 < 7; decide) (dc54 (x := 6) bs_m_takesSum (by decide +kernel)) rfl (G_ldI (nx := 23) (dc21 (x := 4) bs_m_takesSum (by decide +kernel)) rfl (G_ifeq (off := 37) (tg := 60) (nf := 26) (dc153 (x := 0) (y := 37) bs_m_takesSum (by decide +kernel) (by decide +kernel)) (by decide +kernel) rfl
  (G_ldAn (n := 0) (nx := 61) (dc42 bs_m_takesSum (by decide +kernel)) rfl rfl (G_getRc (nx := 64) fl_10_93 rf_10_50 (dc180 (x := 0) (y := 93) bs_m_takesSum (by decide +kernel) rfl) rfl (G_ldI (nx := 66) (dc21 (x := 6) bs_m_takesSum (by decide +kernel)) rfl (G_ldAn (n := 0) (nx := 67) (dc42 bs_m_takesSum (by decide +kernel)) rfl rfl (G_getRc (nx := 70) fl_10_93 rf_10_50 (dc180 (x := 0) (y := 93) bs_m_takesSum (by decide +kernel) rfl) rfl (G_ldI (nx := 72) (dc21 (x := 6) bs_m_takesSum (by decide +kernel)) rfl (G_iald (nx := 73) ak_64 (dc46 bs_m_takesSum (by decide +kernel)) rfl (G_ldI (nx := 75) (dc21 (x := 5) bs_m_takesSum (by decide +kernel)) rfl (G_ldAn (n := 0) (nx := 76) (dc42 bs_m_takesSum (by decide +kernel)) rfl rfl (G_getRc (nx := 79) fl_10_87 rf_10_48 (dc180 (x := 0) (y := 87) bs_m_takesSum (by decide +kernel) rfl) rfl (G_ldIn (n := 1) (nx := 80) (dc27 bs_m_takesSum (by decide +kernel)) rfl rfl (G_ldIn (n := 2) (nx := 81) (dc28 bs_m_takesSum (by decide +kernel)) rfl rfl (G_ldIn (n := 3) (nx := 82) (dc29 bs_m_takesSum (by decide +kernel)) rfl rfl (G_callS (b0 := 0) (nx := 85) (g_Fn_of rfl h_m_lineAt) (cw_10_456) wd7_171 rfl ⟨by decide, by show 3 ≤ 21; decide⟩ (Nat.zero_le _) (dc184 (x := 1) (y := 200) bs_m_takesSum (by decide +kernel) rfl) rfl (G_iald (nx := 86) ak_62 (dc46 bs_m_takesSum (by decide +kernel)) rfl (G_iadd (nx := 87) (dc96 bs_m_takesSum (by decide +kernel)) rfl (G_callS (b0 := 0) (nx := 90) (g_Fn_of rfl h_m_lesser) (cw_10_469) wd7_190 rfl ⟨by decide, by show 2 ≤ 21; decide⟩ (Nat.zero_le _) (dc184 (x := 1) (y := 213) bs_m_takesSum (by decide +kernel) rfl) rfl (G_iast (nx := 91) ak_64 (by decide) (dc79 bs_m_takesSum (by decide +kernel)) rfl (G_vret rfl (dc177 bs_m_takesSum (by decide +kernel)))))))))))))))))))))
  (G_ldAn (n := 0) (nx := 27) (dc42 bs_m_takesSum (by decide +kernel)) rfl rfl (G_getRc (nx := 30) fl_10_93 rf_10_50 (dc180 (x := 0) (y := 93) bs_m_takesSum (by decide +kernel) rfl) rfl (G_ldI (nx := 32) (dc21 (x := 6) bs_m_takesSum (by decide +kernel)) rfl (G_ldAn (n := 0) (nx := 33) (dc42 bs_m_takesSum (by decide +kernel)) rfl rfl (G_getRc (nx := 36) fl_10_93 rf_10_50 (dc180 (x := 0) (y := 93) bs_m_takesSum (by decide +kernel) rfl) rfl (G_ldI (nx := 38) (dc21 (x := 6) bs_m_takesSum (by decide +kernel)) rfl (G_iald (nx := 39) ak_64 (dc46 bs_m_takesSum (by decide +kernel)) rfl (G_ldI (nx := 41) (dc21 (x := 5) bs_m_takesSum (by decide +kernel)) rfl (G_ldAn (n := 0) (nx := 42) (dc42 bs_m_takesSum (by decide +kernel)) rfl rfl (G_getRc (nx := 45) fl_10_90 rf_10_49 (dc180 (x := 0) (y := 90) bs_m_takesSum (by decide +kernel) rfl) rfl (G_ldIn (n := 1) (nx := 46) (dc27 bs_m_takesSum (by decide +kernel)) rfl rfl (G_ldIn (n := 2) (nx := 47) (dc28 bs_m_takesSum (by decide +kernel)) rfl rfl (G_ldIn (n := 3) (nx := 48) (dc29 bs_m_takesSum (by decide +kernel)) rfl rfl (G_callS (b0 := 0) (nx := 51) (g_Fn_of rfl h_m_lineAt) (cw_10_456) wd7_171 rfl ⟨by decide, by show 3 ≤ 21; decide⟩ (Nat.zero_le _) (dc184 (x := 1) (y := 200) bs_m_takesSum (by decide +kernel) rfl) rfl (G_iald (nx := 52) ak_63 (dc46 bs_m_takesSum (by decide +kernel)) rfl (G_iadd (nx := 53) (dc96 bs_m_takesSum (by decide +kernel)) rfl (G_callS (b0 := 0) (nx := 56) (g_Fn_of rfl h_m_greater) (cw_10_393) wd7_62 rfl ⟨by decide, by show 2 ≤ 21; decide⟩ (Nat.zero_le _) (dc184 (x := 1) (y := 137) bs_m_takesSum (by decide +kernel) rfl) rfl (G_iast (nx := 57) ak_64 (by decide) (dc79 bs_m_takesSum (by decide +kernel)) rfl (G_goto (off := 34) (nx := 91) (dc167 (x := 0) (y := 34) bs_m_takesSum (by decide +kernel) (by decide +kernel)) (by decide +kernel) (G_vret rfl (dc177 bs_m_takesSum (by decide +kernel)))))))))))))))))))))))))))))))))))))
    exact ht _ _ σ q ((e_m_takesSum m_stateAt m_lineAt m_greater m_lesser σ l1 l2 l3 l4).symm.trans e1)
  exact g_meth (σ' := q) (v := none) (by decide) rfl hw hwf hok (Nat.le_of_ble_eq_true rfl) hGo (fun σ2 v2 h => retV_inv h) (by exact e2)

set_option maxRecDepth 100000 in
set_option maxHeartbeats 4000000 in
theorem B_m_laysSums_b89 (K47 : Sg → Int32 → Int32 → Option Sg) (hK47 : ∀ (s : Sg) (l1 : Int32) (l2 : Int32) (r : Sg), K47 s l1 l2 = some r → g_Go M_m_laysSums retV 0 47 [some (.inr (.inr (some (10, 0)))), some (.inl l1), some (.inl l2), none, none, none] [] s r) (K57 : Sg → Int32 → Int32 → Int32 → Option Sg) (hK57 : ∀ (s : Sg) (l1 : Int32) (l2 : Int32) (l3 : Int32) (r : Sg), K57 s l1 l2 l3 = some r → g_Go M_m_laysSums retV 0 57 [some (.inr (.inr (some (10, 0)))), some (.inl l1), some (.inl l2), some (.inl l3), none, none] [] s r) : ∀ (n : Nat) (s : Sg) (l1 : Int32) (l2 : Int32) (l3 : Int32) (l4 : Int32) (l5 : Int32) (r : Sg), m_laysSums_b89 K47 K57 n s l1 l2 l3 l4 l5 = some r → g_Go M_m_laysSums retV 0 89 [some (.inr (.inr (some (10, 0)))), some (.inl l1), some (.inl l2), some (.inl l3), some (.inl l4), some (.inl l5)] [] s r := by
  intro n
  induction n with
  | zero => intro s l1 l2 l3 l4 l5 r h; cases h
  | succ n hK89 =>
    intro s l1 l2 l3 l4 l5 r h
    have ht : g_Gd M_m_laysSums retV 0 89 (t_m_laysSums_b89 K57 (m_laysSums_b89 K47 K57 n) m_lastPlace m_canLine m_takesSum) := (G_ldI (nx := 91) (dc21 (x := 5) bs_m_laysSums (by decide +kernel)) rfl (G_ldAn (n := 0) (nx := 92) (dc42 bs_m_laysSums (by decide +kernel)) rfl rfl (G_callV (b0 := 0) (nx := 95) (T := TX10) (ci := 10) (g_Fn_of rfl h_m_lastPlace) (cw_10_384) ⟨wd7_59, sel_GalleyRoomModel_lastPlace___I⟩ ⟨rfl, rfl⟩ ⟨by decide, by show 1 ≤ 21; decide⟩ (Nat.zero_le _) (rec_m_lastPlace _) (dc182 (x := 1) (y := 128) bs_m_laysSums (by decide +kernel) rfl) rfl (G_icmpgt (off := 45) (tg := 140) (nf := 98) (dc163 (x := 0) (y := 45) bs_m_laysSums (by decide +kernel) (by decide +kernel)) (by decide +kernel) rfl
    (G_inc (n := 1) (nx := 143) (by show 3 < 6; decide) (dc132 (x := 3) (y := 1) bs_m_laysSums (by decide +kernel) (by decide +kernel)) icv_1 rfl (G_goto (off := -86) (nx := 57) (dc167 (x := 255) (y := 170) bs_m_laysSums (by decide +kernel) (by decide +kernel)) (by decide +kernel) (G_lbl (Gp_C <| Gp_I fun a1 => Gp_I fun a2 => Gp_I fun a3 => Gp_E fun s r h => hK57 s a1 a2 a3 r h))))
    (G_ldI (nx := 100) (dc21 (x := 4) bs_m_laysSums (by decide +kernel)) rfl (G_ldcw (nx := 103) wd7_177 (dc19 (x := 1) (y := 203) bs_m_laysSums (by decide +kernel) rfl) rfl (G_icmpeq (off := 37) (tg := 140) (nf := 106) (dc159 (x := 0) (y := 37) bs_m_laysSums (by decide +kernel) (by decide +kernel)) (by decide +kernel) rfl
      (G_inc (n := 1) (nx := 143) (by show 3 < 6; decide) (dc132 (x := 3) (y := 1) bs_m_laysSums (by decide +kernel) (by decide +kernel)) icv_1 rfl (G_goto (off := -86) (nx := 57) (dc167 (x := 255) (y := 170) bs_m_laysSums (by decide +kernel) (by decide +kernel)) (by decide +kernel) (G_lbl (Gp_C <| Gp_I fun a1 => Gp_I fun a2 => Gp_I fun a3 => Gp_E fun s r h => hK57 s a1 a2 a3 r h))))
      (G_ldI (nx := 108) (dc21 (x := 4) bs_m_laysSums (by decide +kernel)) rfl (G_ldcw (nx := 111) wd7_204 (dc19 (x := 1) (y := 226) bs_m_laysSums (by decide +kernel) rfl) rfl (G_icmpeq (off := 29) (tg := 140) (nf := 114) (dc159 (x := 0) (y := 29) bs_m_laysSums (by decide +kernel) (by decide +kernel)) (by decide +kernel) rfl
        (G_inc (n := 1) (nx := 143) (by show 3 < 6; decide) (dc132 (x := 3) (y := 1) bs_m_laysSums (by decide +kernel) (by decide +kernel)) icv_1 rfl (G_goto (off := -86) (nx := 57) (dc167 (x := 255) (y := 170) bs_m_laysSums (by decide +kernel) (by decide +kernel)) (by decide +kernel) (G_lbl (Gp_C <| Gp_I fun a1 => Gp_I fun a2 => Gp_I fun a3 => Gp_E fun s r h => hK57 s a1 a2 a3 r h))))
        (G_ldAn (n := 0) (nx := 115) (dc42 bs_m_laysSums (by decide +kernel)) rfl rfl (G_ldIn (n := 3) (nx := 116) (dc29 bs_m_laysSums (by decide +kernel)) rfl rfl (G_ldIn (n := 2) (nx := 117) (dc28 bs_m_laysSums (by decide +kernel)) rfl rfl (G_ldI (nx := 119) (dc21 (x := 5) bs_m_laysSums (by decide +kernel)) rfl (G_callV (b0 := 0) (nx := 122) (T := TX10) (ci := 10) (g_Fn_of rfl h_m_canLine) (cw_10_463) ⟨wd7_184, sel_GalleyRoomModel_canLine__III_Z⟩ ⟨rfl, rfl⟩ ⟨by decide, by show 4 ≤ 21; decide⟩ (Nat.zero_le _) (rec_m_canLine _) (dc182 (x := 1) (y := 207) bs_m_laysSums (by decide +kernel) rfl) rfl (G_ifeq (off := 12) (tg := 134) (nf := 125) (dc153 (x := 0) (y := 12) bs_m_laysSums (by decide +kernel) (by decide +kernel)) (by decide +kernel) rfl
          (G_inc (n := 1) (nx := 137) (by show 5 < 6; decide) (dc132 (x := 5) (y := 1) bs_m_laysSums (by decide +kernel) (by decide +kernel)) icv_1 rfl (G_goto (off := -48) (nx := 89) (dc167 (x := 255) (y := 208) bs_m_laysSums (by decide +kernel) (by decide +kernel)) (by decide +kernel) (G_lbl (Gp_C <| Gp_I fun a1 => Gp_I fun a2 => Gp_I fun a3 => Gp_I fun a4 => Gp_I fun a5 => Gp_E fun s r h => hK89 s a1 a2 a3 a4 a5 r h))))
          (G_ldAn (n := 0) (nx := 126) (dc42 bs_m_laysSums (by decide +kernel)) rfl rfl (G_ldIn (n := 3) (nx := 127) (dc29 bs_m_laysSums (by decide +kernel)) rfl rfl (G_ldIn (n := 2) (nx := 128) (dc28 bs_m_laysSums (by decide +kernel)) rfl rfl (G_ldI (nx := 130) (dc21 (x := 5) bs_m_laysSums (by decide +kernel)) rfl (G_ldIn (n := 1) (nx := 131) (dc27 bs_m_laysSums (by decide +kernel)) rfl rfl (G_callV (b0 := 0) (nx := 134) (T := TX10) (ci := 10) (g_Fn_of rfl h_m_takesSum) (cw_10_483) ⟨wd7_207, sel_GalleyRoomModel_takesSum__IIIZ_V⟩ ⟨rfl, rfl⟩ ⟨by decide, by show 7 ≤ 21; decide⟩ (Nat.zero_le _) (rec_m_takesSum _) (dc182 (x := 1) (y := 227) bs_m_laysSums (by decide +kernel) rfl) rfl (G_inc (n := 1) (nx := 137) (by show 5 < 6; decide) (dc132 (x := 5) (y := 1) bs_m_laysSums (by decide +kernel) (by decide +kernel)) icv_1 rfl (G_goto (off := -48) (nx := 89) (dc167 (x := 255) (y := 208) bs_m_laysSums (by decide +kernel) (by decide +kernel)) (by decide +kernel) (G_lbl (Gp_C <| Gp_I fun a1 => Gp_I fun a2 => Gp_I fun a3 => Gp_I fun a4 => Gp_I fun a5 => Gp_E fun s r h => hK89 s a1 a2 a3 a4 a5 r h))))))))))))))))))))))))))
    exact ht _ _ s r ((e_m_laysSums_b89 K57 (m_laysSums_b89 K47 K57 n) m_lastPlace m_canLine m_takesSum s l1 l2 l3 l4 l5).symm.trans h)

set_option maxRecDepth 100000 in
set_option maxHeartbeats 4000000 in
theorem B_m_laysSums_b57 (K47 : Sg → Int32 → Int32 → Option Sg) (hK47 : ∀ (s : Sg) (l1 : Int32) (l2 : Int32) (r : Sg), K47 s l1 l2 = some r → g_Go M_m_laysSums retV 0 47 [some (.inr (.inr (some (10, 0)))), some (.inl l1), some (.inl l2), none, none, none] [] s r) : ∀ (n : Nat) (s : Sg) (l1 : Int32) (l2 : Int32) (l3 : Int32) (r : Sg), m_laysSums_b57 K47 n s l1 l2 l3 = some r → g_Go M_m_laysSums retV 0 57 [some (.inr (.inr (some (10, 0)))), some (.inl l1), some (.inl l2), some (.inl l3), none, none] [] s r := by
  intro n
  induction n with
  | zero => intro s l1 l2 l3 r h; cases h
  | succ n hK57 =>
    intro s l1 l2 l3 r h
    have ht : g_Gd M_m_laysSums retV 0 57 (t_m_laysSums_b57 K47 (m_laysSums_b89 K47 (m_laysSums_b57 K47 n) FU) m_isStart m_stateAt) := (G_ldIn (n := 3) (nx := 58) (dc29 bs_m_laysSums (by decide +kernel)) rfl rfl (G_ldIn (n := 2) (nx := 59) (dc28 bs_m_laysSums (by decide +kernel)) rfl rfl (G_ic (n := 1) (nx := 60) (dc4 bs_m_laysSums (by decide +kernel)) icv_1 rfl (G_iadd (nx := 61) (dc96 bs_m_laysSums (by decide +kernel)) rfl (G_icmpgt (off := 85) (tg := 146) (nf := 64) (dc163 (x := 0) (y := 85) bs_m_laysSums (by decide +kernel) (by decide +kernel)) (by decide +kernel) rfl
    (G_inc (n := 1) (nx := 149) (by show 2 < 6; decide) (dc132 (x := 2) (y := 1) bs_m_laysSums (by decide +kernel) (by decide +kernel)) icv_1 rfl (G_goto (off := -102) (nx := 47) (dc167 (x := 255) (y := 154) bs_m_laysSums (by decide +kernel) (by decide +kernel)) (by decide +kernel) (G_lbl (Gp_C <| Gp_I fun a1 => Gp_I fun a2 => Gp_E fun s r h => hK47 s a1 a2 r h))))
    (G_ldAn (n := 0) (nx := 65) (dc42 bs_m_laysSums (by decide +kernel)) rfl rfl (G_ldIn (n := 2) (nx := 66) (dc28 bs_m_laysSums (by decide +kernel)) rfl rfl (G_callV (b0 := 0) (nx := 69) (T := TX10) (ci := 10) (g_Fn_of rfl h_m_isStart) (cw_10_460) ⟨wd7_180, sel_GalleyRoomModel_isStart__I_Z⟩ ⟨rfl, rfl⟩ ⟨by decide, by show 2 ≤ 21; decide⟩ (Nat.zero_le _) (rec_m_isStart _) (dc182 (x := 1) (y := 204) bs_m_laysSums (by decide +kernel) rfl) rfl (G_ifeq (off := 77) (tg := 146) (nf := 72) (dc153 (x := 0) (y := 77) bs_m_laysSums (by decide +kernel) (by decide +kernel)) (by decide +kernel) rfl
      (G_inc (n := 1) (nx := 149) (by show 2 < 6; decide) (dc132 (x := 2) (y := 1) bs_m_laysSums (by decide +kernel) (by decide +kernel)) icv_1 rfl (G_goto (off := -102) (nx := 47) (dc167 (x := 255) (y := 154) bs_m_laysSums (by decide +kernel) (by decide +kernel)) (by decide +kernel) (G_lbl (Gp_C <| Gp_I fun a1 => Gp_I fun a2 => Gp_E fun s r h => hK47 s a1 a2 r h))))
      (G_ldAn (n := 0) (nx := 73) (dc42 bs_m_laysSums (by decide +kernel)) rfl rfl (G_getRc (nx := 76) fl_10_93 rf_10_50 (dc180 (x := 0) (y := 93) bs_m_laysSums (by decide +kernel) rfl) rfl (G_ldIn (n := 3) (nx := 77) (dc29 bs_m_laysSums (by decide +kernel)) rfl rfl (G_ldIn (n := 2) (nx := 78) (dc28 bs_m_laysSums (by decide +kernel)) rfl rfl (G_callS (b0 := 0) (nx := 81) (g_Fn_of rfl h_m_stateAt) (cw_10_466) wd7_187 rfl ⟨by decide, by show 2 ≤ 21; decide⟩ (Nat.zero_le _) (dc184 (x := 1) (y := 210) bs_m_laysSums (by decide +kernel) rfl) rfl (G_iald (nx := 82) ak_64 (dc46 bs_m_laysSums (by decide +kernel)) rfl (G_stI (nx := 84) (by show 4 < 6; decide) (dc54 (x := 4) bs_m_laysSums (by decide +kernel)) rfl (G_ldIn (n := 2) (nx := 85) (dc28 bs_m_laysSums (by decide +kernel)) rfl rfl (G_ic (n := 1) (nx := 86) (dc4 bs_m_laysSums (by decide +kernel)) icv_1 rfl (G_iadd (nx := 87) (dc96 bs_m_laysSums (by decide +kernel)) rfl (G_stI (nx := 89) (by show 5 < 6; decide) (dc54 (x := 5) bs_m_laysSums (by decide +kernel)) rfl (G_lbl (Gp_C <| Gp_I fun a1 => Gp_I fun a2 => Gp_I fun a3 => Gp_I fun a4 => Gp_I fun a5 => Gp_E fun s r h => B_m_laysSums_b89 K47 hK47 (m_laysSums_b57 K47 n) hK57 FU s a1 a2 a3 a4 a5 r h))))))))))))))))))))))
    exact ht _ _ s r ((e_m_laysSums_b57 K47 (m_laysSums_b89 K47 (m_laysSums_b57 K47 n) FU) m_isStart m_stateAt s l1 l2 l3).symm.trans h)

set_option maxRecDepth 100000 in
set_option maxHeartbeats 4000000 in
theorem B_m_laysSums_b47 : ∀ (n : Nat) (s : Sg) (l1 : Int32) (l2 : Int32) (r : Sg), m_laysSums_b47 n s l1 l2 = some r → g_Go M_m_laysSums retV 0 47 [some (.inr (.inr (some (10, 0)))), some (.inl l1), some (.inl l2), none, none, none] [] s r := by
  intro n
  induction n with
  | zero => intro s l1 l2 r h; cases h
  | succ n hK47 =>
    intro s l1 l2 r h
    have ht : g_Gd M_m_laysSums retV 0 47 (t_m_laysSums_b47 (m_laysSums_b57 (m_laysSums_b47 n) FU) m_lastPlace) := (G_ldIn (n := 2) (nx := 48) (dc28 bs_m_laysSums (by decide +kernel)) rfl rfl (G_ldAn (n := 0) (nx := 49) (dc42 bs_m_laysSums (by decide +kernel)) rfl rfl (G_callV (b0 := 0) (nx := 52) (T := TX10) (ci := 10) (g_Fn_of rfl h_m_lastPlace) (cw_10_384) ⟨wd7_59, sel_GalleyRoomModel_lastPlace___I⟩ ⟨rfl, rfl⟩ ⟨by decide, by show 1 ≤ 21; decide⟩ (Nat.zero_le _) (rec_m_lastPlace _) (dc182 (x := 1) (y := 128) bs_m_laysSums (by decide +kernel) rfl) rfl (G_icmpge (off := 100) (tg := 152) (nf := 55) (dc162 (x := 0) (y := 100) bs_m_laysSums (by decide +kernel) (by decide +kernel)) (by decide +kernel) rfl
    (G_ic (n := 0) (nx := 56) (dc3 bs_m_laysSums (by decide +kernel)) icv_0 rfl (G_stIn (n := 3) (nx := 57) (by show 3 < 6; decide) (dc62 bs_m_laysSums (by decide +kernel)) rfl rfl (G_lbl (Gp_C <| Gp_I fun a1 => Gp_I fun a2 => Gp_I fun a3 => Gp_E fun s r h => B_m_laysSums_b57 (m_laysSums_b47 n) hK47 FU s a1 a2 a3 r h))))
    (G_vret rfl (dc177 bs_m_laysSums (by decide +kernel)))))))
    exact ht _ _ s r ((e_m_laysSums_b47 (m_laysSums_b57 (m_laysSums_b47 n) FU) m_lastPlace s l1 l2).symm.trans h)

set_option maxRecDepth 100000 in
set_option maxHeartbeats 4000000 in
theorem B_m_laysSums_b2 : ∀ (n : Nat) (s : Sg) (l1 : Int32) (l2 : Int32) (r : Sg), m_laysSums_b2 n s l1 l2 = some r → g_Go M_m_laysSums retV 0 2 [some (.inr (.inr (some (10, 0)))), some (.inl l1), some (.inl l2), none, none, none] [] s r := by
  intro n
  induction n with
  | zero => intro s l1 l2 r h; cases h
  | succ n hK2 =>
    intro s l1 l2 r h
    have ht : g_Gd M_m_laysSums retV 0 2 (t_m_laysSums_b2 (m_laysSums_b2 n) (m_laysSums_b47 FU) m_stateAt) := (G_ldIn (n := 2) (nx := 3) (dc28 bs_m_laysSums (by decide +kernel)) rfl rfl (G_si (n := 625) (nx := 6) (dc17 (x := 2) (y := 113) bs_m_laysSums (by decide +kernel) (by decide +kernel)) siv_625 rfl (G_icmpge (off := 28) (tg := 34) (nf := 9) (dc162 (x := 0) (y := 28) bs_m_laysSums (by decide +kernel) (by decide +kernel)) (by decide +kernel) rfl
    (G_ldAn (n := 0) (nx := 10) (dc42 bs_m_laysSums (by decide +kernel)) rfl rfl (G_getRc (nx := 13) fl_10_93 rf_10_50 (dc180 (x := 0) (y := 93) bs_m_laysSums (by decide +kernel) rfl) rfl (G_ldIn (n := 2) (nx := 14) (dc28 bs_m_laysSums (by decide +kernel)) rfl rfl (G_ldIn (n := 1) (nx := 15) (dc27 bs_m_laysSums (by decide +kernel)) rfl rfl (G_ifeq (off := 9) (tg := 24) (nf := 18) (dc153 (x := 0) (y := 9) bs_m_laysSums (by decide +kernel) (by decide +kernel)) (by decide +kernel) rfl
      (G_ldcw (nx := 27) wd7_177 (dc19 (x := 1) (y := 203) bs_m_laysSums (by decide +kernel) rfl) rfl (G_iast (nx := 28) ak_64 (by decide) (dc79 bs_m_laysSums (by decide +kernel)) rfl (G_inc (n := 1) (nx := 31) (by show 2 < 6; decide) (dc132 (x := 2) (y := 1) bs_m_laysSums (by decide +kernel) (by decide +kernel)) icv_1 rfl (G_goto (off := -29) (nx := 2) (dc167 (x := 255) (y := 227) bs_m_laysSums (by decide +kernel) (by decide +kernel)) (by decide +kernel) (G_lbl (Gp_C <| Gp_I fun a1 => Gp_I fun a2 => Gp_E fun s r h => hK2 s a1 a2 r h))))))
      (G_ldcw (nx := 21) wd7_204 (dc19 (x := 1) (y := 226) bs_m_laysSums (by decide +kernel) rfl) rfl (G_goto (off := 6) (nx := 27) (dc167 (x := 0) (y := 6) bs_m_laysSums (by decide +kernel) (by decide +kernel)) (by decide +kernel) (G_iast (nx := 28) ak_64 (by decide) (dc79 bs_m_laysSums (by decide +kernel)) rfl (G_inc (n := 1) (nx := 31) (by show 2 < 6; decide) (dc132 (x := 2) (y := 1) bs_m_laysSums (by decide +kernel) (by decide +kernel)) icv_1 rfl (G_goto (off := -29) (nx := 2) (dc167 (x := 255) (y := 227) bs_m_laysSums (by decide +kernel) (by decide +kernel)) (by decide +kernel) (G_lbl (Gp_C <| Gp_I fun a1 => Gp_I fun a2 => Gp_E fun s r h => hK2 s a1 a2 r h))))))))))))
    (G_ldAn (n := 0) (nx := 35) (dc42 bs_m_laysSums (by decide +kernel)) rfl rfl (G_getRc (nx := 38) fl_10_93 rf_10_50 (dc180 (x := 0) (y := 93) bs_m_laysSums (by decide +kernel) rfl) rfl (G_ic (n := 0) (nx := 39) (dc3 bs_m_laysSums (by decide +kernel)) icv_0 rfl (G_ic (n := -1) (nx := 40) (dc2 bs_m_laysSums (by decide +kernel)) icv_m1 rfl (G_callS (b0 := 0) (nx := 43) (g_Fn_of rfl h_m_stateAt) (cw_10_466) wd7_187 rfl ⟨by decide, by show 2 ≤ 21; decide⟩ (Nat.zero_le _) (dc184 (x := 1) (y := 210) bs_m_laysSums (by decide +kernel) rfl) rfl (G_ic (n := 0) (nx := 44) (dc3 bs_m_laysSums (by decide +kernel)) icv_0 rfl (G_iast (nx := 45) ak_64 (by decide) (dc79 bs_m_laysSums (by decide +kernel)) rfl (G_ic (n := -1) (nx := 46) (dc2 bs_m_laysSums (by decide +kernel)) icv_m1 rfl (G_stIn (n := 2) (nx := 47) (by show 2 < 6; decide) (dc61 bs_m_laysSums (by decide +kernel)) rfl rfl (G_lbl (Gp_C <| Gp_I fun a1 => Gp_I fun a2 => Gp_E fun s r h => B_m_laysSums_b47 FU s a1 a2 r h))))))))))))))
    exact ht _ _ s r ((e_m_laysSums_b2 (m_laysSums_b2 n) (m_laysSums_b47 FU) m_stateAt s l1 l2).symm.trans h)

set_option maxRecDepth 100000 in
set_option maxHeartbeats 4000000 in
theorem h_m_laysSums : g_Ft M_m_laysSums yX10_laysSums 2 (FW_m_laysSums m_laysSums) := by
  intro l w hw σ as hlen hwf hok ρ k r e
  unfold FW_m_laysSums at e
  obtain ⟨hh0, e⟩ := p_C_inv e
  obtain ⟨l1, hh1, e⟩ := p_I_inv e
  have e := p_E_inv e
  obtain ⟨q, e1, e2⟩ := Option.bind_eq_some_iff.mp e
  have has : as = [.inr (.inr (some (10, 0))), .inl l1] := g_as2 hlen hh0 hh1
  subst has
  have hGo : g_Go M_m_laysSums retV (me M_m_laysSums) 0 (g_loc [.inr (.inr (some (10, 0))), .inl l1] (ml M_m_laysSums)) [] σ q := by
    have ht : g_Gd M_m_laysSums retV (me M_m_laysSums) 0 (t_m_laysSums (m_laysSums_b2 FU)) := (G_ic (n := 0) (nx := 1) (dc3 bs_m_laysSums (by decide +kernel)) icv_0 rfl (G_stIn (n := 2) (nx := 2) (by show 2 < 6; decide) (dc61 bs_m_laysSums (by decide +kernel)) rfl rfl (G_lbl (Gp_C <| Gp_I fun a1 => Gp_I fun a2 => Gp_E fun s r h => B_m_laysSums_b2 FU s a1 a2 r h))))
    exact ht _ _ σ q ((e_m_laysSums (m_laysSums_b2 FU) σ l1).symm.trans e1)
  exact g_meth (σ' := q) (v := none) (by decide) rfl hw hwf hok (Nat.le_of_ble_eq_true rfl) hGo (fun σ2 v2 h => retV_inv h) (by exact e2)

set_option maxRecDepth 100000 in
set_option maxHeartbeats 4000000 in
theorem h_m_laysCosts : g_Ft M_m_laysCosts yX10_laysCosts 1 (FW_m_laysCosts m_laysCosts) := by
  intro l w hw σ as hlen hwf hok ρ k r e
  unfold FW_m_laysCosts at e
  obtain ⟨hh0, e⟩ := p_C_inv e
  have e := p_E_inv e
  obtain ⟨q, e1, e2⟩ := Option.bind_eq_some_iff.mp e
  have has : as = [.inr (.inr (some (10, 0)))] := g_as1 hlen hh0
  subst has
  have hGo : g_Go M_m_laysCosts retV (me M_m_laysCosts) 0 (g_loc [.inr (.inr (some (10, 0)))] (ml M_m_laysCosts)) [] σ q := by
    have ht : g_Gd M_m_laysCosts retV (me M_m_laysCosts) 0 (t_m_laysCosts m_laysLines m_laysSums) := (G_ldAn (n := 0) (nx := 1) (dc42 bs_m_laysCosts (by decide +kernel)) rfl rfl (G_ldAn (n := 0) (nx := 2) (dc42 bs_m_laysCosts (by decide +kernel)) rfl rfl (G_getRc (nx := 5) fl_10_24 rf_10_2 (dc180 (x := 0) (y := 24) bs_m_laysCosts (by decide +kernel) rfl) rfl (G_bi (n := 53) (nx := 7) (dc16 (x := 53) bs_m_laysCosts (by decide +kernel) (by decide +kernel)) biv_53 rfl (G_iald (nx := 8) ak_43 (dc46 bs_m_laysCosts (by decide +kernel)) rfl (G_ic (n := 1) (nx := 9) (dc4 bs_m_laysCosts (by decide +kernel)) icv_1 rfl (G_callV (b0 := 0) (nx := 12) (T := TX10) (ci := 10) (g_Fn_of rfl h_m_laysLines) (cw_10_472) ⟨wd7_160, sel_GalleyRoomModel_laysLines__IZ_V⟩ ⟨rfl, rfl⟩ ⟨by decide, by show 6 ≤ 21; decide⟩ (Nat.zero_le _) (rec_m_laysLines _) (dc182 (x := 1) (y := 216) bs_m_laysCosts (by decide +kernel) rfl) rfl (G_ldAn (n := 0) (nx := 13) (dc42 bs_m_laysCosts (by decide +kernel)) rfl rfl (G_ic (n := 0) (nx := 14) (dc3 bs_m_laysCosts (by decide +kernel)) icv_0 rfl (G_callV (b0 := 0) (nx := 17) (T := TX10) (ci := 10) (g_Fn_of rfl h_m_laysSums) (cw_10_487) ⟨wd7_202, sel_GalleyRoomModel_laysSums__Z_V⟩ ⟨rfl, rfl⟩ ⟨by decide, by show 6 ≤ 21; decide⟩ (Nat.zero_le _) (rec_m_laysSums _) (dc182 (x := 1) (y := 231) bs_m_laysCosts (by decide +kernel) rfl) rfl (G_vret rfl (dc177 bs_m_laysCosts (by decide +kernel)))))))))))))
    exact ht _ _ σ q ((e_m_laysCosts m_laysLines m_laysSums σ ).symm.trans e1)
  exact g_meth (σ' := q) (v := none) (by decide) rfl hw hwf hok (Nat.le_of_ble_eq_true rfl) hGo (fun σ2 v2 h => retV_inv h) (by exact e2)

set_option maxRecDepth 100000 in
set_option maxHeartbeats 4000000 in
theorem h_m_costsBy : g_Ft M_m_costsBy yX10_costsBy 2 (FW_m_costsBy m_costsBy) := by
  intro l w hw σ as hlen hwf hok ρ k r e
  unfold FW_m_costsBy at e
  obtain ⟨hh0, e⟩ := p_C_inv e
  obtain ⟨l1, hh1, e⟩ := p_I_inv e
  have e := p_E_inv e
  obtain ⟨q, e1, e2⟩ := Option.bind_eq_some_iff.mp e
  have has : as = [.inr (.inr (some (10, 0))), .inl l1] := g_as2 hlen hh0 hh1
  subst has
  have hGo : g_Go M_m_costsBy retI (me M_m_costsBy) 0 (g_loc [.inr (.inr (some (10, 0))), .inl l1] (ml M_m_costsBy)) [] σ q := by
    have ht : g_Gd M_m_costsBy retI (me M_m_costsBy) 0 (t_m_costsBy m_lastPlace m_stateAt) := (G_ldAn (n := 0) (nx := 1) (dc42 bs_m_costsBy (by decide +kernel)) rfl rfl (G_getRc (nx := 4) fl_10_93 rf_10_50 (dc180 (x := 0) (y := 93) bs_m_costsBy (by decide +kernel) rfl) rfl (G_ldIn (n := 1) (nx := 5) (dc27 bs_m_costsBy (by decide +kernel)) rfl rfl (G_ldAn (n := 0) (nx := 6) (dc42 bs_m_costsBy (by decide +kernel)) rfl rfl (G_callV (b0 := 0) (nx := 9) (T := TX10) (ci := 10) (g_Fn_of rfl h_m_lastPlace) (cw_10_384) ⟨wd7_59, sel_GalleyRoomModel_lastPlace___I⟩ ⟨rfl, rfl⟩ ⟨by decide, by show 1 ≤ 21; decide⟩ (Nat.zero_le _) (rec_m_lastPlace _) (dc182 (x := 1) (y := 128) bs_m_costsBy (by decide +kernel) rfl) rfl (G_callS (b0 := 0) (nx := 12) (g_Fn_of rfl h_m_stateAt) (cw_10_466) wd7_187 rfl ⟨by decide, by show 2 ≤ 21; decide⟩ (Nat.zero_le _) (dc184 (x := 1) (y := 210) bs_m_costsBy (by decide +kernel) rfl) rfl (G_iald (nx := 13) ak_64 (dc46 bs_m_costsBy (by decide +kernel)) rfl (G_iret rfl (dc172 bs_m_costsBy (by decide +kernel))))))))))
    exact ht _ _ σ q ((e_m_costsBy m_lastPlace m_stateAt σ l1).symm.trans e1)
  exact g_meth (σ' := q.1) (v := some (.inl q.2)) (by decide) rfl hw hwf hok (Nat.le_of_ble_eq_true rfl) hGo (fun σ2 v2 h => retI_inv h) (by exact e2)

set_option maxRecDepth 100000 in
set_option maxHeartbeats 4000000 in
theorem h_m_just : g_Ft M_m_just yX10_just 2 (FW_m_just m_just) := by
  intro l w hw σ as hlen hwf hok ρ k r e
  unfold FW_m_just at e
  obtain ⟨hh0, e⟩ := p_C_inv e
  obtain ⟨l1, hh1, e⟩ := p_I_inv e
  have e := p_E_inv e
  obtain ⟨q, e1, e2⟩ := Option.bind_eq_some_iff.mp e
  have has : as = [.inr (.inr (some (10, 0))), .inl l1] := g_as2 hlen hh0 hh1
  subst has
  have hGo : g_Go M_m_just retI (me M_m_just) 0 (g_loc [.inr (.inr (some (10, 0))), .inl l1] (ml M_m_just)) [] σ q := by
    have ht : g_Gd M_m_just retI (me M_m_just) 0 (t_m_just m_lies m_laysCosts m_costsBy) := (G_ldIn (n := 1) (nx := 1) (dc27 bs_m_just (by decide +kernel)) rfl rfl (G_ic (n := 0) (nx := 2) (dc3 bs_m_just (by decide +kernel)) icv_0 rfl (G_bi (n := 24) (nx := 4) (dc16 (x := 24) bs_m_just (by decide +kernel) (by decide +kernel)) biv_24 rfl (G_callS (b0 := 0) (nx := 7) (g_Fn_of rfl h_m_lies) (cw_10_132) wd6_74 rfl ⟨by decide, by show 3 ≤ 21; decide⟩ (Nat.zero_le _) (dc184 (x := 0) (y := 132) bs_m_just (by decide +kernel) rfl) rfl (G_ifne (off := 5) (tg := 12) (nf := 10) (dc154 (x := 0) (y := 5) bs_m_just (by decide +kernel) (by decide +kernel)) (by decide +kernel) rfl
  (G_ic (n := -1) (nx := 11) (dc2 bs_m_just (by decide +kernel)) icv_m1 rfl (G_iret rfl (dc172 bs_m_just (by decide +kernel))))
  (G_ldAn (n := 0) (nx := 13) (dc42 bs_m_just (by decide +kernel)) rfl rfl (G_callV (b0 := 0) (nx := 16) (T := TX10) (ci := 10) (g_Fn_of rfl h_m_laysCosts) (cw_10_491) ⟨wd7_198, sel_GalleyRoomModel_laysCosts___V⟩ ⟨rfl, rfl⟩ ⟨by decide, by show 1 ≤ 21; decide⟩ (Nat.zero_le _) (rec_m_laysCosts _) (dc182 (x := 1) (y := 235) bs_m_just (by decide +kernel) rfl) rfl (G_ldAn (n := 0) (nx := 17) (dc42 bs_m_just (by decide +kernel)) rfl rfl (G_ldIn (n := 1) (nx := 18) (dc27 bs_m_just (by decide +kernel)) rfl rfl (G_callV (b0 := 0) (nx := 21) (T := TX10) (ci := 10) (g_Fn_of rfl h_m_costsBy) (cw_10_494) ⟨wd7_211, sel_GalleyRoomModel_costsBy__I_I⟩ ⟨rfl, rfl⟩ ⟨by decide, by show 2 ≤ 21; decide⟩ (Nat.zero_le _) (rec_m_costsBy _) (dc182 (x := 1) (y := 238) bs_m_just (by decide +kernel) rfl) rfl (G_ldcw (nx := 24) wd7_177 (dc19 (x := 1) (y := 203) bs_m_just (by decide +kernel) rfl) rfl (G_icmpne (off := 7) (tg := 31) (nf := 27) (dc160 (x := 0) (y := 7) bs_m_just (by decide +kernel) (by decide +kernel)) (by decide +kernel) rfl
    (G_ic (n := -1) (nx := 28) (dc2 bs_m_just (by decide +kernel)) icv_m1 rfl (G_goto (off := 8) (nx := 36) (dc167 (x := 0) (y := 8) bs_m_just (by decide +kernel) (by decide +kernel)) (by decide +kernel) (G_iret rfl (dc172 bs_m_just (by decide +kernel)))))
    (G_ldAn (n := 0) (nx := 32) (dc42 bs_m_just (by decide +kernel)) rfl rfl (G_ldIn (n := 1) (nx := 33) (dc27 bs_m_just (by decide +kernel)) rfl rfl (G_callV (b0 := 0) (nx := 36) (T := TX10) (ci := 10) (g_Fn_of rfl h_m_costsBy) (cw_10_494) ⟨wd7_211, sel_GalleyRoomModel_costsBy__I_I⟩ ⟨rfl, rfl⟩ ⟨by decide, by show 2 ≤ 21; decide⟩ (Nat.zero_le _) (rec_m_costsBy _) (dc182 (x := 1) (y := 238) bs_m_just (by decide +kernel) rfl) rfl (G_iret rfl (dc172 bs_m_just (by decide +kernel))))))))))))))))))
    exact ht _ _ σ q ((e_m_just m_lies m_laysCosts m_costsBy σ l1).symm.trans e1)
  exact g_meth (σ' := q.1) (v := some (.inl q.2)) (by decide) rfl hw hwf hok (Nat.le_of_ble_eq_true rfl) hGo (fun σ2 v2 h => retI_inv h) (by exact e2)

set_option maxRecDepth 100000 in
set_option maxHeartbeats 4000000 in
theorem B_m_fewest_b6 : ∀ (n : Nat) (s : Sg) (l1 : Int32) (r : (Sg × Int32)), m_fewest_b6 n s l1 = some r → g_Go M_m_fewest retI 0 6 [some (.inr (.inr (some (10, 0)))), some (.inl l1)] [] s r := by
  intro n
  induction n with
  | zero => intro s l1 r h; cases h
  | succ n hK6 =>
    intro s l1 r h
    have ht : g_Gd M_m_fewest retI 0 6 (t_m_fewest_b6 (m_fewest_b6 n) m_costsBy) := (G_ldIn (n := 1) (nx := 7) (dc27 bs_m_fewest (by decide +kernel)) rfl rfl (G_bi (n := 24) (nx := 9) (dc16 (x := 24) bs_m_fewest (by decide +kernel) (by decide +kernel)) biv_24 rfl (G_icmpgt (off := 22) (tg := 31) (nf := 12) (dc163 (x := 0) (y := 22) bs_m_fewest (by decide +kernel) (by decide +kernel)) (by decide +kernel) rfl
    (G_ic (n := -1) (nx := 32) (dc2 bs_m_fewest (by decide +kernel)) icv_m1 rfl (G_iret rfl (dc172 bs_m_fewest (by decide +kernel))))
    (G_ldAn (n := 0) (nx := 13) (dc42 bs_m_fewest (by decide +kernel)) rfl rfl (G_ldIn (n := 1) (nx := 14) (dc27 bs_m_fewest (by decide +kernel)) rfl rfl (G_callV (b0 := 0) (nx := 17) (T := TX10) (ci := 10) (g_Fn_of rfl h_m_costsBy) (cw_10_494) ⟨wd7_211, sel_GalleyRoomModel_costsBy__I_I⟩ ⟨rfl, rfl⟩ ⟨by decide, by show 2 ≤ 21; decide⟩ (Nat.zero_le _) (rec_m_costsBy _) (dc182 (x := 1) (y := 238) bs_m_fewest (by decide +kernel) rfl) rfl (G_ldcw (nx := 20) wd7_177 (dc19 (x := 1) (y := 203) bs_m_fewest (by decide +kernel) rfl) rfl (G_icmpeq (off := 5) (tg := 25) (nf := 23) (dc159 (x := 0) (y := 5) bs_m_fewest (by decide +kernel) (by decide +kernel)) (by decide +kernel) rfl
      (G_inc (n := 1) (nx := 28) (by show 1 < 2; decide) (dc132 (x := 1) (y := 1) bs_m_fewest (by decide +kernel) (by decide +kernel)) icv_1 rfl (G_goto (off := -22) (nx := 6) (dc167 (x := 255) (y := 234) bs_m_fewest (by decide +kernel) (by decide +kernel)) (by decide +kernel) (G_lbl (Gp_C <| Gp_I fun a1 => Gp_E fun s r h => hK6 s a1 r h))))
      (G_ldIn (n := 1) (nx := 24) (dc27 bs_m_fewest (by decide +kernel)) rfl rfl (G_iret rfl (dc172 bs_m_fewest (by decide +kernel))))))))))))
    exact ht _ _ s r ((e_m_fewest_b6 (m_fewest_b6 n) m_costsBy s l1).symm.trans h)

set_option maxRecDepth 100000 in
set_option maxHeartbeats 4000000 in
theorem h_m_fewest : g_Ft M_m_fewest yX10_fewest 1 (FW_m_fewest m_fewest) := by
  intro l w hw σ as hlen hwf hok ρ k r e
  unfold FW_m_fewest at e
  obtain ⟨hh0, e⟩ := p_C_inv e
  have e := p_E_inv e
  obtain ⟨q, e1, e2⟩ := Option.bind_eq_some_iff.mp e
  have has : as = [.inr (.inr (some (10, 0)))] := g_as1 hlen hh0
  subst has
  have hGo : g_Go M_m_fewest retI (me M_m_fewest) 0 (g_loc [.inr (.inr (some (10, 0)))] (ml M_m_fewest)) [] σ q := by
    have ht : g_Gd M_m_fewest retI (me M_m_fewest) 0 (t_m_fewest (m_fewest_b6 FU) m_laysCosts) := (G_ldAn (n := 0) (nx := 1) (dc42 bs_m_fewest (by decide +kernel)) rfl rfl (G_callV (b0 := 0) (nx := 4) (T := TX10) (ci := 10) (g_Fn_of rfl h_m_laysCosts) (cw_10_491) ⟨wd7_198, sel_GalleyRoomModel_laysCosts___V⟩ ⟨rfl, rfl⟩ ⟨by decide, by show 1 ≤ 21; decide⟩ (Nat.zero_le _) (rec_m_laysCosts _) (dc182 (x := 1) (y := 235) bs_m_fewest (by decide +kernel) rfl) rfl (G_ic (n := 0) (nx := 5) (dc3 bs_m_fewest (by decide +kernel)) icv_0 rfl (G_stIn (n := 1) (nx := 6) (by show 1 < 2; decide) (dc60 bs_m_fewest (by decide +kernel)) rfl rfl (G_lbl (Gp_C <| Gp_I fun a1 => Gp_E fun s r h => B_m_fewest_b6 FU s a1 r h))))))
    exact ht _ _ σ q ((e_m_fewest (m_fewest_b6 FU) m_laysCosts σ ).symm.trans e1)
  exact g_meth (σ' := q.1) (v := some (.inl q.2)) (by decide) rfl hw hwf hok (Nat.le_of_ble_eq_true rfl) hGo (fun σ2 v2 h => retI_inv h) (by exact e2)

set_option maxRecDepth 100000 in
set_option maxHeartbeats 4000000 in
theorem B_m_most_b7 : ∀ (n : Nat) (s : Sg) (l1 : Int32) (r : (Sg × Int32)), m_most_b7 n s l1 = some r → g_Go M_m_most retI 0 7 [some (.inr (.inr (some (10, 0)))), some (.inl l1)] [] s r := by
  intro n
  induction n with
  | zero => intro s l1 r h; cases h
  | succ n hK7 =>
    intro s l1 r h
    have ht : g_Gd M_m_most retI 0 7 (t_m_most_b7 (m_most_b7 n) m_costsBy) := (G_ldIn (n := 1) (nx := 8) (dc27 bs_m_most (by decide +kernel)) rfl rfl (G_iflt (off := 22) (tg := 30) (nf := 11) (dc155 (x := 0) (y := 22) bs_m_most (by decide +kernel) (by decide +kernel)) (by decide +kernel) rfl
    (G_ic (n := -1) (nx := 31) (dc2 bs_m_most (by decide +kernel)) icv_m1 rfl (G_iret rfl (dc172 bs_m_most (by decide +kernel))))
    (G_ldAn (n := 0) (nx := 12) (dc42 bs_m_most (by decide +kernel)) rfl rfl (G_ldIn (n := 1) (nx := 13) (dc27 bs_m_most (by decide +kernel)) rfl rfl (G_callV (b0 := 0) (nx := 16) (T := TX10) (ci := 10) (g_Fn_of rfl h_m_costsBy) (cw_10_494) ⟨wd7_211, sel_GalleyRoomModel_costsBy__I_I⟩ ⟨rfl, rfl⟩ ⟨by decide, by show 2 ≤ 21; decide⟩ (Nat.zero_le _) (rec_m_costsBy _) (dc182 (x := 1) (y := 238) bs_m_most (by decide +kernel) rfl) rfl (G_ldcw (nx := 19) wd7_177 (dc19 (x := 1) (y := 203) bs_m_most (by decide +kernel) rfl) rfl (G_icmpeq (off := 5) (tg := 24) (nf := 22) (dc159 (x := 0) (y := 5) bs_m_most (by decide +kernel) (by decide +kernel)) (by decide +kernel) rfl
      (G_inc (n := -1) (nx := 27) (by show 1 < 2; decide) (dc132 (x := 1) (y := 255) bs_m_most (by decide +kernel) (by decide +kernel)) icv_m1 rfl (G_goto (off := -20) (nx := 7) (dc167 (x := 255) (y := 236) bs_m_most (by decide +kernel) (by decide +kernel)) (by decide +kernel) (G_lbl (Gp_C <| Gp_I fun a1 => Gp_E fun s r h => hK7 s a1 r h))))
      (G_ldIn (n := 1) (nx := 23) (dc27 bs_m_most (by decide +kernel)) rfl rfl (G_iret rfl (dc172 bs_m_most (by decide +kernel)))))))))))
    exact ht _ _ s r ((e_m_most_b7 (m_most_b7 n) m_costsBy s l1).symm.trans h)

set_option maxRecDepth 100000 in
set_option maxHeartbeats 4000000 in
theorem h_m_most : g_Ft M_m_most yX10_most 1 (FW_m_most m_most) := by
  intro l w hw σ as hlen hwf hok ρ k r e
  unfold FW_m_most at e
  obtain ⟨hh0, e⟩ := p_C_inv e
  have e := p_E_inv e
  obtain ⟨q, e1, e2⟩ := Option.bind_eq_some_iff.mp e
  have has : as = [.inr (.inr (some (10, 0)))] := g_as1 hlen hh0
  subst has
  have hGo : g_Go M_m_most retI (me M_m_most) 0 (g_loc [.inr (.inr (some (10, 0)))] (ml M_m_most)) [] σ q := by
    have ht : g_Gd M_m_most retI (me M_m_most) 0 (t_m_most (m_most_b7 FU) m_laysCosts) := (G_ldAn (n := 0) (nx := 1) (dc42 bs_m_most (by decide +kernel)) rfl rfl (G_callV (b0 := 0) (nx := 4) (T := TX10) (ci := 10) (g_Fn_of rfl h_m_laysCosts) (cw_10_491) ⟨wd7_198, sel_GalleyRoomModel_laysCosts___V⟩ ⟨rfl, rfl⟩ ⟨by decide, by show 1 ≤ 21; decide⟩ (Nat.zero_le _) (rec_m_laysCosts _) (dc182 (x := 1) (y := 235) bs_m_most (by decide +kernel) rfl) rfl (G_bi (n := 24) (nx := 6) (dc16 (x := 24) bs_m_most (by decide +kernel) (by decide +kernel)) biv_24 rfl (G_stIn (n := 1) (nx := 7) (by show 1 < 2; decide) (dc60 bs_m_most (by decide +kernel)) rfl rfl (G_lbl (Gp_C <| Gp_I fun a1 => Gp_E fun s r h => B_m_most_b7 FU s a1 r h))))))
    exact ht _ _ σ q ((e_m_most (m_most_b7 FU) m_laysCosts σ ).symm.trans e1)
  exact g_meth (σ' := q.1) (v := some (.inl q.2)) (by decide) rfl hw hwf hok (Nat.le_of_ble_eq_true rfl) hGo (fun σ2 v2 h => retI_inv h) (by exact e2)

