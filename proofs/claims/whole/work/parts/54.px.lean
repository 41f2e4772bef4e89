set_option maxRecDepth 100000 in
set_option maxHeartbeats 4000000 in
theorem B_x7_mostAlike_b20 (K5 : Sg → Int32 → Int32 → Int32 → Int32 → Option (Sg × Int32)) (hK5 : ∀ (s : Sg) (l1 : Int32) (l2 : Int32) (l3 : Int32) (l4 : Int32) (r : (Sg × Int32)), K5 s l1 l2 l3 l4 = some r → g_Go M_x7_mostAlike retI 0 5 [some (.inr (.inr (some (7, 0)))), some (.inl l1), some (.inl l2), some (.inl l3), some (.inl l4), none, none] [] s r) : ∀ (n : Nat) (s : Sg) (l1 : Int32) (l2 : Int32) (l3 : Int32) (l4 : Int32) (l5 : Int32) (l6 : Int32) (r : (Sg × Int32)), x7_mostAlike_b20 K5 n s l1 l2 l3 l4 l5 l6 = some r → g_Go M_x7_mostAlike retI 0 20 [some (.inr (.inr (some (7, 0)))), some (.inl l1), some (.inl l2), some (.inl l3), some (.inl l4), some (.inl l5), some (.inl l6)] [] s r := by
  intro n
  induction n with
  | zero => intro s l1 l2 l3 l4 l5 l6 r h; cases h
  | succ n hK20 =>
    intro s l1 l2 l3 l4 l5 l6 r h
    have ht : g_Gd M_x7_mostAlike retI 0 20 (t_x7_mostAlike_b20 K5 (x7_mostAlike_b20 K5 n) x7_tellFact) := (G_ldI (nx := 22) (dc21 (x := 6) bs_x7_mostAlike (by decide +kernel)) rfl (G_ldAn (n := 0) (nx := 23) (dc42 bs_x7_mostAlike (by decide +kernel)) rfl rfl (G_getI (nx := 26) fl_7_30 (Or.inl rfl) (dc180 (x := 0) (y := 30) bs_x7_mostAlike (by decide +kernel) rfl) rfl (G_icmpge (off := 39) (tg := 65) (nf := 29) (dc162 (x := 0) (y := 39) bs_x7_mostAlike (by decide +kernel) (by decide +kernel)) (by decide +kernel) rfl
    (G_ldIn (n := 1) (nx := 30) (dc27 bs_x7_mostAlike (by decide +kernel)) rfl rfl (G_ldI (nx := 32) (dc21 (x := 6) bs_x7_mostAlike (by decide +kernel)) rfl (G_ishr (nx := 33) (dc122 bs_x7_mostAlike (by decide +kernel)) rfl (G_ic (n := 1) (nx := 34) (dc4 bs_x7_mostAlike (by decide +kernel)) icv_1 rfl (G_iand (nx := 35) (dc126 bs_x7_mostAlike (by decide +kernel)) rfl (G_ic (n := 1) (nx := 36) (dc4 bs_x7_mostAlike (by decide +kernel)) icv_1 rfl (G_icmpne (off := 23) (tg := 59) (nf := 39) (dc160 (x := 0) (y := 23) bs_x7_mostAlike (by decide +kernel) (by decide +kernel)) (by decide +kernel) rfl
      (G_ldAn (n := 0) (nx := 40) (dc42 bs_x7_mostAlike (by decide +kernel)) rfl rfl (G_ldIn (n := 2) (nx := 41) (dc28 bs_x7_mostAlike (by decide +kernel)) rfl rfl (G_ldI (nx := 43) (dc21 (x := 6) bs_x7_mostAlike (by decide +kernel)) rfl (G_callV (b0 := 0) (nx := 46) (T := TX7) (ci := 7) (g_Fn_of rfl h_x7_tellFact) (cw_7_106) ⟨wd5_35, sel_GalleyRoom_Sheet_tellFact__II_I⟩ ⟨rfl, rfl⟩ ⟨by decide, by show 3 ≤ 21; decide⟩ (Nat.zero_le _) (rec_x7_tellFact _) (dc182 (x := 0) (y := 106) bs_x7_mostAlike (by decide +kernel) rfl) rfl (G_ldAn (n := 0) (nx := 47) (dc42 bs_x7_mostAlike (by decide +kernel)) rfl rfl (G_ldIn (n := 2) (nx := 48) (dc28 bs_x7_mostAlike (by decide +kernel)) rfl rfl (G_ldI (nx := 50) (dc21 (x := 4) bs_x7_mostAlike (by decide +kernel)) rfl (G_callV (b0 := 0) (nx := 53) (T := TX7) (ci := 7) (g_Fn_of rfl h_x7_tellFact) (cw_7_106) ⟨wd5_35, sel_GalleyRoom_Sheet_tellFact__II_I⟩ ⟨rfl, rfl⟩ ⟨by decide, by show 3 ≤ 21; decide⟩ (Nat.zero_le _) (rec_x7_tellFact _) (dc182 (x := 0) (y := 106) bs_x7_mostAlike (by decide +kernel) rfl) rfl (G_icmpne (off := 6) (tg := 59) (nf := 56) (dc160 (x := 0) (y := 6) bs_x7_mostAlike (by decide +kernel) (by decide +kernel)) (by decide +kernel) rfl
        (G_inc (n := 1) (nx := 59) (by show 5 < 7; decide) (dc132 (x := 5) (y := 1) bs_x7_mostAlike (by decide +kernel) (by decide +kernel)) icv_1 rfl (G_inc (n := 1) (nx := 62) (by show 6 < 7; decide) (dc132 (x := 6) (y := 1) bs_x7_mostAlike (by decide +kernel) (by decide +kernel)) icv_1 rfl (G_goto (off := -42) (nx := 20) (dc167 (x := 255) (y := 214) bs_x7_mostAlike (by decide +kernel) (by decide +kernel)) (by decide +kernel) (G_lbl (Gp_C <| Gp_I fun a1 => Gp_I fun a2 => Gp_I fun a3 => Gp_I fun a4 => Gp_I fun a5 => Gp_I fun a6 => Gp_E fun s r h => hK20 s a1 a2 a3 a4 a5 a6 r h)))))
        (G_inc (n := 1) (nx := 62) (by show 6 < 7; decide) (dc132 (x := 6) (y := 1) bs_x7_mostAlike (by decide +kernel) (by decide +kernel)) icv_1 rfl (G_goto (off := -42) (nx := 20) (dc167 (x := 255) (y := 214) bs_x7_mostAlike (by decide +kernel) (by decide +kernel)) (by decide +kernel) (G_lbl (Gp_C <| Gp_I fun a1 => Gp_I fun a2 => Gp_I fun a3 => Gp_I fun a4 => Gp_I fun a5 => Gp_I fun a6 => Gp_E fun s r h => hK20 s a1 a2 a3 a4 a5 a6 r h)))))))))))))
      (G_inc (n := 1) (nx := 62) (by show 6 < 7; decide) (dc132 (x := 6) (y := 1) bs_x7_mostAlike (by decide +kernel) (by decide +kernel)) icv_1 rfl (G_goto (off := -42) (nx := 20) (dc167 (x := 255) (y := 214) bs_x7_mostAlike (by decide +kernel) (by decide +kernel)) (by decide +kernel) (G_lbl (Gp_C <| Gp_I fun a1 => Gp_I fun a2 => Gp_I fun a3 => Gp_I fun a4 => Gp_I fun a5 => Gp_I fun a6 => Gp_E fun s r h => hK20 s a1 a2 a3 a4 a5 a6 r h)))))))))))
    (G_ldIn (n := 1) (nx := 66) (dc27 bs_x7_mostAlike (by decide +kernel)) rfl rfl (G_ldI (nx := 68) (dc21 (x := 4) bs_x7_mostAlike (by decide +kernel)) rfl (G_ishr (nx := 69) (dc122 bs_x7_mostAlike (by decide +kernel)) rfl (G_ic (n := 1) (nx := 70) (dc4 bs_x7_mostAlike (by decide +kernel)) icv_1 rfl (G_iand (nx := 71) (dc126 bs_x7_mostAlike (by decide +kernel)) rfl (G_ic (n := 1) (nx := 72) (dc4 bs_x7_mostAlike (by decide +kernel)) icv_1 rfl (G_icmpne (off := 10) (tg := 82) (nf := 75) (dc160 (x := 0) (y := 10) bs_x7_mostAlike (by decide +kernel) (by decide +kernel)) (by decide +kernel) rfl
      (G_ldIn (n := 3) (nx := 76) (dc29 bs_x7_mostAlike (by decide +kernel)) rfl rfl (G_ldI (nx := 78) (dc21 (x := 5) bs_x7_mostAlike (by decide +kernel)) rfl (G_max (nx := 81) ⟨wd5_10, wd2_22, wd1_10, wd2_23⟩ (by decide) (dc184 (x := 0) (y := 115) bs_x7_mostAlike (by decide +kernel) rfl) rfl (G_stIn (n := 3) (nx := 82) (by show 3 < 7; decide) (dc62 bs_x7_mostAlike (by decide +kernel)) rfl rfl (G_inc (n := 1) (nx := 85) (by show 4 < 7; decide) (dc132 (x := 4) (y := 1) bs_x7_mostAlike (by decide +kernel) (by decide +kernel)) icv_1 rfl (G_goto (off := -80) (nx := 5) (dc167 (x := 255) (y := 176) bs_x7_mostAlike (by decide +kernel) (by decide +kernel)) (by decide +kernel) (G_lbl (Gp_C <| Gp_I fun a1 => Gp_I fun a2 => Gp_I fun a3 => Gp_I fun a4 => Gp_E fun s r h => hK5 s a1 a2 a3 a4 r h))))))))
      (G_inc (n := 1) (nx := 85) (by show 4 < 7; decide) (dc132 (x := 4) (y := 1) bs_x7_mostAlike (by decide +kernel) (by decide +kernel)) icv_1 rfl (G_goto (off := -80) (nx := 5) (dc167 (x := 255) (y := 176) bs_x7_mostAlike (by decide +kernel) (by decide +kernel)) (by decide +kernel) (G_lbl (Gp_C <| Gp_I fun a1 => Gp_I fun a2 => Gp_I fun a3 => Gp_I fun a4 => Gp_E fun s r h => hK5 s a1 a2 a3 a4 r h)))))))))))))))
    exact ht _ _ s r ((e_x7_mostAlike_b20 K5 (x7_mostAlike_b20 K5 n) x7_tellFact s l1 l2 l3 l4 l5 l6).symm.trans h)

set_option maxRecDepth 100000 in
set_option maxHeartbeats 4000000 in
theorem B_x7_mostAlike_b5 : ∀ (n : Nat) (s : Sg) (l1 : Int32) (l2 : Int32) (l3 : Int32) (l4 : Int32) (r : (Sg × Int32)), x7_mostAlike_b5 n s l1 l2 l3 l4 = some r → g_Go M_x7_mostAlike retI 0 5 [some (.inr (.inr (some (7, 0)))), some (.inl l1), some (.inl l2), some (.inl l3), some (.inl l4), none, none] [] s r := by
  intro n
  induction n with
  | zero => intro s l1 l2 l3 l4 r h; cases h
  | succ n hK5 =>
    intro s l1 l2 l3 l4 r h
    have ht : g_Gd M_x7_mostAlike retI 0 5 (t_x7_mostAlike_b5 (x7_mostAlike_b20 (x7_mostAlike_b5 n) FU)) := (G_ldI (nx := 7) (dc21 (x := 4) bs_x7_mostAlike (by decide +kernel)) rfl (G_ldAn (n := 0) (nx := 8) (dc42 bs_x7_mostAlike (by decide +kernel)) rfl rfl (G_getI (nx := 11) fl_7_30 (Or.inl rfl) (dc180 (x := 0) (y := 30) bs_x7_mostAlike (by decide +kernel) rfl) rfl (G_icmpge (off := 77) (tg := 88) (nf := 14) (dc162 (x := 0) (y := 77) bs_x7_mostAlike (by decide +kernel) (by decide +kernel)) (by decide +kernel) rfl
    (G_ic (n := 0) (nx := 15) (dc3 bs_x7_mostAlike (by decide +kernel)) icv_0 rfl (G_stI (nx := 17) (by show 5 < 7; decide) (dc54 (x := 5) bs_x7_mostAlike (by decide +kernel)) rfl (G_ic (n := 0) (nx := 18) (dc3 bs_x7_mostAlike (by decide +kernel)) icv_0 rfl (G_stI (nx := 20) (by show 6 < 7; decide) (dc54 (x := 6) bs_x7_mostAlike (by decide +kernel)) rfl (G_lbl (Gp_C <| Gp_I fun a1 => Gp_I fun a2 => Gp_I fun a3 => Gp_I fun a4 => Gp_I fun a5 => Gp_I fun a6 => Gp_E fun s r h => B_x7_mostAlike_b20 (x7_mostAlike_b5 n) hK5 FU s a1 a2 a3 a4 a5 a6 r h))))))
    (G_ldIn (n := 3) (nx := 89) (dc29 bs_x7_mostAlike (by decide +kernel)) rfl rfl (G_iret rfl (dc172 bs_x7_mostAlike (by decide +kernel))))))))
    exact ht _ _ s r ((e_x7_mostAlike_b5 (x7_mostAlike_b20 (x7_mostAlike_b5 n) FU) s l1 l2 l3 l4).symm.trans h)

set_option maxRecDepth 100000 in
set_option maxHeartbeats 4000000 in
theorem h_x7_mostAlike : g_Ft M_x7_mostAlike yX7_mostAlike 3 (FW_x7_mostAlike x7_mostAlike) := by
  intro l w hw σ as hlen hwf hok ρ k r e
  unfold FW_x7_mostAlike at e
  obtain ⟨hh0, e⟩ := p_C_inv e
  obtain ⟨l1, hh1, e⟩ := p_I_inv e
  obtain ⟨l2, hh2, e⟩ := p_I_inv e
  have e := p_E_inv e
  obtain ⟨q, e1, e2⟩ := Option.bind_eq_some_iff.mp e
  have has : as = [.inr (.inr (some (7, 0))), .inl l1, .inl l2] := g_as3 hlen hh0 hh1 hh2
  subst has
  have hGo : g_Go M_x7_mostAlike retI (me M_x7_mostAlike) 0 (g_loc [.inr (.inr (some (7, 0))), .inl l1, .inl l2] (ml M_x7_mostAlike)) [] σ q := by
    have ht : g_Gd M_x7_mostAlike retI (me M_x7_mostAlike) 0 (t_x7_mostAlike (x7_mostAlike_b5 FU)) := (G_ic (n := 0) (nx := 1) (dc3 bs_x7_mostAlike (by decide +kernel)) icv_0 rfl (G_stIn (n := 3) (nx := 2) (by show 3 < 7; decide) (dc62 bs_x7_mostAlike (by decide +kernel)) rfl rfl (G_ic (n := 0) (nx := 3) (dc3 bs_x7_mostAlike (by decide +kernel)) icv_0 rfl (G_stI (nx := 5) (by show 4 < 7; decide) (dc54 (x := 4) bs_x7_mostAlike (by decide +kernel)) rfl (G_lbl (Gp_C <| Gp_I fun a1 => Gp_I fun a2 => Gp_I fun a3 => Gp_I fun a4 => Gp_E fun s r h => B_x7_mostAlike_b5 FU s a1 a2 a3 a4 r h))))))
    exact ht _ _ σ q ((e_x7_mostAlike (x7_mostAlike_b5 FU) σ l1 l2).symm.trans e1)
  exact g_meth (σ' := q.1) (v := some (.inl q.2)) (by decide) rfl hw hwf hok (Nat.le_of_ble_eq_true rfl) hGo (fun σ2 v2 h => retI_inv h) (by exact e2)

set_option maxRecDepth 100000 in
set_option maxHeartbeats 4000000 in
theorem B_x7_flowThrough_b21 : ∀ (n : Nat) (s : Sg) (g1 : Nat) (l2 : Int32) (l3 : Int32) (l4 : Int32) (l5 : Int32) (l6 : Int32) (r : (Sg × Int32)), x7_flowThrough_b21 n s g1 l2 l3 l4 l5 l6 = some r → g_Go M_x7_flowThrough retI 0 21 [some (.inr (.inr (some (7, 0)))), some (.inr (.inr (some (1, g1)))), some (.inl l2), some (.inl l3), some (.inl l4), some (.inl l5), some (.inl l6)] [] s r := by
  intro n
  induction n with
  | zero => intro s g1 l2 l3 l4 l5 l6 r h; cases h
  | succ n hK21 =>
    intro s g1 l2 l3 l4 l5 l6 r h
    have ht : g_Gd M_x7_flowThrough retI 0 21 (t_x7_flowThrough_b21 (x7_flowThrough_b21 n) x1_pieceOf) := (G_ldI (nx := 23) (dc21 (x := 6) bs_x7_flowThrough (by decide +kernel)) rfl (G_ldIn (n := 3) (nx := 24) (dc29 bs_x7_flowThrough (by decide +kernel)) rfl rfl (G_ic (n := 2) (nx := 25) (dc5 bs_x7_flowThrough (by decide +kernel)) icv_2 rfl (G_idiv (nx := 26) (dc108 bs_x7_flowThrough (by decide +kernel)) rfl (G_icmpge (off := 107) (tg := 133) (nf := 29) (dc162 (x := 0) (y := 107) bs_x7_flowThrough (by decide +kernel) (by decide +kernel)) (by decide +kernel) rfl
    (G_ldI (nx := 31) (dc21 (x := 5) bs_x7_flowThrough (by decide +kernel)) rfl (G_ldAn (n := 1) (nx := 32) (dc43 bs_x7_flowThrough (by decide +kernel)) rfl rfl (G_ldI (nx := 34) (dc21 (x := 6) bs_x7_flowThrough (by decide +kernel)) rfl (G_ldIn (n := 2) (nx := 35) (dc28 bs_x7_flowThrough (by decide +kernel)) rfl rfl (G_ldIn (n := 3) (nx := 36) (dc29 bs_x7_flowThrough (by decide +kernel)) rfl rfl (G_callV (b0 := 0) (nx := 39) (T := TX1) (ci := 1) (g_Fn_of rfl h_x1_pieceOf) (cw_7_130) ⟨wd2_232, wd2_233⟩ ⟨rfl, rfl⟩ ⟨by decide, by show 4 ≤ 21; decide⟩ (Nat.zero_le _) (rec_x1_pieceOf _) (dc182 (x := 0) (y := 130) bs_x7_flowThrough (by decide +kernel) rfl) rfl (G_iadd (nx := 40) (dc96 bs_x7_flowThrough (by decide +kernel)) rfl (G_stI (nx := 42) (by show 5 < 7; decide) (dc54 (x := 5) bs_x7_flowThrough (by decide +kernel)) rfl (G_ldI (nx := 44) (dc21 (x := 5) bs_x7_flowThrough (by decide +kernel)) rfl (G_ic (n := 1) (nx := 45) (dc4 bs_x7_flowThrough (by decide +kernel)) icv_1 rfl (G_icmplt (off := 79) (tg := 124) (nf := 48) (dc161 (x := 0) (y := 79) bs_x7_flowThrough (by decide +kernel) (by decide +kernel)) (by decide +kernel) rfl
      (G_inc (n := 1) (nx := 127) (by show 5 < 7; decide) (dc132 (x := 5) (y := 1) bs_x7_flowThrough (by decide +kernel) (by decide +kernel)) icv_1 rfl (G_inc (n := 1) (nx := 130) (by show 6 < 7; decide) (dc132 (x := 6) (y := 1) bs_x7_flowThrough (by decide +kernel) (by decide +kernel)) icv_1 rfl (G_goto (off := -109) (nx := 21) (dc167 (x := 255) (y := 147) bs_x7_flowThrough (by decide +kernel) (by decide +kernel)) (by decide +kernel) (G_lbl (Gp_C <| Gp_R fun a1 => Gp_I fun a2 => Gp_I fun a3 => Gp_I fun a4 => Gp_I fun a5 => Gp_I fun a6 => Gp_E fun s r h => hK21 s a1 a2 a3 a4 a5 a6 r h)))))
      (G_ldI (nx := 50) (dc21 (x := 5) bs_x7_flowThrough (by decide +kernel)) rfl (G_ic (n := 1) (nx := 51) (dc4 bs_x7_flowThrough (by decide +kernel)) icv_1 rfl (G_iadd (nx := 52) (dc96 bs_x7_flowThrough (by decide +kernel)) rfl (G_ldAn (n := 0) (nx := 53) (dc42 bs_x7_flowThrough (by decide +kernel)) rfl rfl (G_getD (nx := 56) fl_7_16 rfl (dc180 (x := 0) (y := 16) bs_x7_flowThrough (by decide +kernel) rfl) rfl (G_alen (nx := 57) ak_75 (by decide) (dc190 bs_x7_flowThrough (by decide +kernel)) rfl (G_icmpge (off := 67) (tg := 124) (nf := 60) (dc162 (x := 0) (y := 67) bs_x7_flowThrough (by decide +kernel) (by decide +kernel)) (by decide +kernel) rfl
        (G_ldI (nx := 62) (dc21 (x := 5) bs_x7_flowThrough (by decide +kernel)) rfl (G_ldAn (n := 0) (nx := 63) (dc42 bs_x7_flowThrough (by decide +kernel)) rfl rfl (G_getD (nx := 66) fl_7_20 rfl (dc180 (x := 0) (y := 20) bs_x7_flowThrough (by decide +kernel) rfl) rfl (G_alen (nx := 67) ak_75 (by decide) (dc190 bs_x7_flowThrough (by decide +kernel)) rfl (G_icmpge (off := 57) (tg := 124) (nf := 70) (dc162 (x := 0) (y := 57) bs_x7_flowThrough (by decide +kernel) (by decide +kernel)) (by decide +kernel) rfl
          (G_ldAn (n := 0) (nx := 71) (dc42 bs_x7_flowThrough (by decide +kernel)) rfl rfl (G_getD (nx := 74) fl_7_20 rfl (dc180 (x := 0) (y := 20) bs_x7_flowThrough (by decide +kernel) rfl) rfl (G_ldI (nx := 76) (dc21 (x := 5) bs_x7_flowThrough (by decide +kernel)) rfl (G_ic (n := 1) (nx := 77) (dc4 bs_x7_flowThrough (by decide +kernel)) icv_1 rfl (G_ldAn (n := 0) (nx := 78) (dc42 bs_x7_flowThrough (by decide +kernel)) rfl rfl (G_getD (nx := 81) fl_7_16 rfl (dc180 (x := 0) (y := 16) bs_x7_flowThrough (by decide +kernel) rfl) rfl (G_ldI (nx := 83) (dc21 (x := 5) bs_x7_flowThrough (by decide +kernel)) rfl (G_iald (nx := 84) ak_75 (dc46 bs_x7_flowThrough (by decide +kernel)) rfl (G_ldAn (n := 0) (nx := 85) (dc42 bs_x7_flowThrough (by decide +kernel)) rfl rfl (G_getD (nx := 88) fl_7_16 rfl (dc180 (x := 0) (y := 16) bs_x7_flowThrough (by decide +kernel) rfl) rfl (G_ldI (nx := 90) (dc21 (x := 5) bs_x7_flowThrough (by decide +kernel)) rfl (G_ic (n := 1) (nx := 91) (dc4 bs_x7_flowThrough (by decide +kernel)) icv_1 rfl (G_isub (nx := 92) (dc100 bs_x7_flowThrough (by decide +kernel)) rfl (G_iald (nx := 93) ak_75 (dc46 bs_x7_flowThrough (by decide +kernel)) rfl (G_ldAn (n := 0) (nx := 94) (dc42 bs_x7_flowThrough (by decide +kernel)) rfl rfl (G_getD (nx := 97) fl_7_16 rfl (dc180 (x := 0) (y := 16) bs_x7_flowThrough (by decide +kernel) rfl) rfl (G_ldI (nx := 99) (dc21 (x := 5) bs_x7_flowThrough (by decide +kernel)) rfl (G_ic (n := 1) (nx := 100) (dc4 bs_x7_flowThrough (by decide +kernel)) icv_1 rfl (G_iadd (nx := 101) (dc96 bs_x7_flowThrough (by decide +kernel)) rfl (G_iald (nx := 102) ak_75 (dc46 bs_x7_flowThrough (by decide +kernel)) rfl (G_max (nx := 105) ⟨wd5_10, wd2_22, wd1_10, wd2_23⟩ (by decide) (dc184 (x := 0) (y := 115) bs_x7_flowThrough (by decide +kernel) rfl) rfl (G_max (nx := 108) ⟨wd5_10, wd2_22, wd1_10, wd2_23⟩ (by decide) (dc184 (x := 0) (y := 115) bs_x7_flowThrough (by decide +kernel) rfl) rfl (G_iadd (nx := 109) (dc96 bs_x7_flowThrough (by decide +kernel)) rfl (G_iast (nx := 110) ak_75 (by decide) (dc79 bs_x7_flowThrough (by decide +kernel)) rfl (G_ldI (nx := 112) (dc21 (x := 4) bs_x7_flowThrough (by decide +kernel)) rfl (G_ldAn (n := 0) (nx := 113) (dc42 bs_x7_flowThrough (by decide +kernel)) rfl rfl (G_getD (nx := 116) fl_7_20 rfl (dc180 (x := 0) (y := 20) bs_x7_flowThrough (by decide +kernel) rfl) rfl (G_ldI (nx := 118) (dc21 (x := 5) bs_x7_flowThrough (by decide +kernel)) rfl (G_iald (nx := 119) ak_75 (dc46 bs_x7_flowThrough (by decide +kernel)) rfl (G_max (nx := 122) ⟨wd5_10, wd2_22, wd1_10, wd2_23⟩ (by decide) (dc184 (x := 0) (y := 115) bs_x7_flowThrough (by decide +kernel) rfl) rfl (G_stI (nx := 124) (by show 4 < 7; decide) (dc54 (x := 4) bs_x7_flowThrough (by decide +kernel)) rfl (G_inc (n := 1) (nx := 127) (by show 5 < 7; decide) (dc132 (x := 5) (y := 1) bs_x7_flowThrough (by decide +kernel) (by decide +kernel)) icv_1 rfl (G_inc (n := 1) (nx := 130) (by show 6 < 7; decide) (dc132 (x := 6) (y := 1) bs_x7_flowThrough (by decide +kernel) (by decide +kernel)) icv_1 rfl (G_goto (off := -109) (nx := 21) (dc167 (x := 255) (y := 147) bs_x7_flowThrough (by decide +kernel) (by decide +kernel)) (by decide +kernel) (G_lbl (Gp_C <| Gp_R fun a1 => Gp_I fun a2 => Gp_I fun a3 => Gp_I fun a4 => Gp_I fun a5 => Gp_I fun a6 => Gp_E fun s r h => hK21 s a1 a2 a3 a4 a5 a6 r h))))))))))))))))))))))))))))))))))))
          (G_inc (n := 1) (nx := 127) (by show 5 < 7; decide) (dc132 (x := 5) (y := 1) bs_x7_flowThrough (by decide +kernel) (by decide +kernel)) icv_1 rfl (G_inc (n := 1) (nx := 130) (by show 6 < 7; decide) (dc132 (x := 6) (y := 1) bs_x7_flowThrough (by decide +kernel) (by decide +kernel)) icv_1 rfl (G_goto (off := -109) (nx := 21) (dc167 (x := 255) (y := 147) bs_x7_flowThrough (by decide +kernel) (by decide +kernel)) (by decide +kernel) (G_lbl (Gp_C <| Gp_R fun a1 => Gp_I fun a2 => Gp_I fun a3 => Gp_I fun a4 => Gp_I fun a5 => Gp_I fun a6 => Gp_E fun s r h => hK21 s a1 a2 a3 a4 a5 a6 r h))))))))))
        (G_inc (n := 1) (nx := 127) (by show 5 < 7; decide) (dc132 (x := 5) (y := 1) bs_x7_flowThrough (by decide +kernel) (by decide +kernel)) icv_1 rfl (G_inc (n := 1) (nx := 130) (by show 6 < 7; decide) (dc132 (x := 6) (y := 1) bs_x7_flowThrough (by decide +kernel) (by decide +kernel)) icv_1 rfl (G_goto (off := -109) (nx := 21) (dc167 (x := 255) (y := 147) bs_x7_flowThrough (by decide +kernel) (by decide +kernel)) (by decide +kernel) (G_lbl (Gp_C <| Gp_R fun a1 => Gp_I fun a2 => Gp_I fun a3 => Gp_I fun a4 => Gp_I fun a5 => Gp_I fun a6 => Gp_E fun s r h => hK21 s a1 a2 a3 a4 a5 a6 r h)))))))))))))))))))))))
    (G_ldI (nx := 135) (dc21 (x := 4) bs_x7_flowThrough (by decide +kernel)) rfl (G_iret rfl (dc172 bs_x7_flowThrough (by decide +kernel)))))))))
    exact ht _ _ s r ((e_x7_flowThrough_b21 (x7_flowThrough_b21 n) x1_pieceOf s g1 l2 l3 l4 l5 l6).symm.trans h)

set_option maxRecDepth 100000 in
set_option maxHeartbeats 4000000 in
theorem h_x7_flowThrough : g_Ft M_x7_flowThrough yX7_flowThrough 4 (FW_x7_flowThrough x7_flowThrough) := by
  intro l w hw σ as hlen hwf hok ρ k r e
  unfold FW_x7_flowThrough at e
  obtain ⟨hh0, e⟩ := p_C_inv e
  obtain ⟨g1, hh1, e⟩ := p_R_inv e
  obtain ⟨l2, hh2, e⟩ := p_I_inv e
  obtain ⟨l3, hh3, e⟩ := p_I_inv e
  have e := p_E_inv e
  obtain ⟨q, e1, e2⟩ := Option.bind_eq_some_iff.mp e
  have has : as = [.inr (.inr (some (7, 0))), .inr (.inr (some (1, g1))), .inl l2, .inl l3] := g_as4 hlen hh0 hh1 hh2 hh3
  subst has
  have hGo : g_Go M_x7_flowThrough retI (me M_x7_flowThrough) 0 (g_loc [.inr (.inr (some (7, 0))), .inr (.inr (some (1, g1))), .inl l2, .inl l3] (ml M_x7_flowThrough)) [] σ q := by
    have ht : g_Gd M_x7_flowThrough retI (me M_x7_flowThrough) 0 (t_x7_flowThrough (x7_flowThrough_b21 FU)) := (G_ic (n := 0) (nx := 1) (dc3 bs_x7_flowThrough (by decide +kernel)) icv_0 rfl (G_stI (nx := 3) (by show 4 < 7; decide) (dc54 (x := 4) bs_x7_flowThrough (by decide +kernel)) rfl (G_ic (n := 0) (nx := 4) (dc3 bs_x7_flowThrough (by decide +kernel)) icv_0 rfl (G_stI (nx := 6) (by show 5 < 7; decide) (dc54 (x := 5) bs_x7_flowThrough (by decide +kernel)) rfl (G_ldAn (n := 0) (nx := 7) (dc42 bs_x7_flowThrough (by decide +kernel)) rfl rfl (G_getD (nx := 10) fl_7_20 rfl (dc180 (x := 0) (y := 20) bs_x7_flowThrough (by decide +kernel) rfl) rfl (G_ic (n := 0) (nx := 11) (dc3 bs_x7_flowThrough (by decide +kernel)) icv_0 rfl (G_fillI75 (nx := 14) wd5_2 (by decide) (dc184 (x := 0) (y := 120) bs_x7_flowThrough (by decide +kernel) rfl) rfl (G_ldIn (n := 2) (nx := 15) (dc28 bs_x7_flowThrough (by decide +kernel)) rfl rfl (G_ic (n := 1) (nx := 16) (dc4 bs_x7_flowThrough (by decide +kernel)) icv_1 rfl (G_iadd (nx := 17) (dc96 bs_x7_flowThrough (by decide +kernel)) rfl (G_ic (n := 2) (nx := 18) (dc5 bs_x7_flowThrough (by decide +kernel)) icv_2 rfl (G_idiv (nx := 19) (dc108 bs_x7_flowThrough (by decide +kernel)) rfl (G_stI (nx := 21) (by show 6 < 7; decide) (dc54 (x := 6) bs_x7_flowThrough (by decide +kernel)) rfl (G_lbl (Gp_C <| Gp_R fun a1 => Gp_I fun a2 => Gp_I fun a3 => Gp_I fun a4 => Gp_I fun a5 => Gp_I fun a6 => Gp_E fun s r h => B_x7_flowThrough_b21 FU s a1 a2 a3 a4 a5 a6 r h))))))))))))))))
    exact ht _ _ σ q ((e_x7_flowThrough (x7_flowThrough_b21 FU) σ g1 l2 l3).symm.trans e1)
  exact g_meth (σ' := q.1) (v := some (.inl q.2)) (by decide) rfl hw hwf hok (Nat.le_of_ble_eq_true rfl) hGo (fun σ2 v2 h => retI_inv h) (by exact e2)

set_option maxRecDepth 100000 in
set_option maxHeartbeats 4000000 in
theorem B_x7_longestRiver_b15 : ∀ (n : Nat) (s : Sg) (g1 : Nat) (l2 : Int32) (l3 : Int32) (l4 : Int32) (r : (Sg × Int32)), x7_longestRiver_b15 n s g1 l2 l3 l4 = some r → g_Go M_x7_longestRiver retI 0 15 [some (.inr (.inr (some (7, 0)))), some (.inr (.inr (some (1, g1)))), some (.inl l2), some (.inl l3), some (.inl l4), none, none] [] s r := by
  intro n
  induction n with
  | zero => intro s g1 l2 l3 l4 r h; cases h
  | succ n hK15 =>
    intro s g1 l2 l3 l4 r h
    have ht : g_Gd M_x7_longestRiver retI 0 15 (t_x7_longestRiver_b15 (x7_longestRiver_b15 n) x7_tellOf x7_flowThrough) := (G_ldI (nx := 17) (dc21 (x := 4) bs_x7_longestRiver (by decide +kernel)) rfl (G_ldAn (n := 0) (nx := 18) (dc42 bs_x7_longestRiver (by decide +kernel)) rfl rfl (G_getI (nx := 21) fl_7_30 (Or.inl rfl) (dc180 (x := 0) (y := 30) bs_x7_longestRiver (by decide +kernel) rfl) rfl (G_icmpge (off := 54) (tg := 75) (nf := 24) (dc162 (x := 0) (y := 54) bs_x7_longestRiver (by decide +kernel) (by decide +kernel)) (by decide +kernel) rfl
    (G_ldAn (n := 0) (nx := 25) (dc42 bs_x7_longestRiver (by decide +kernel)) rfl rfl (G_ic (n := 0) (nx := 26) (dc3 bs_x7_longestRiver (by decide +kernel)) icv_0 rfl (G_ldI (nx := 28) (dc21 (x := 4) bs_x7_longestRiver (by decide +kernel)) rfl (G_callV (b0 := 0) (nx := 31) (T := TX7) (ci := 7) (g_Fn_of rfl h_x7_tellOf) (cw_7_84) ⟨wd3_40, wd3_41⟩ ⟨rfl, rfl⟩ ⟨by decide, by show 3 ≤ 21; decide⟩ (Nat.zero_le _) (rec_x7_tellOf _) (dc182 (x := 0) (y := 84) bs_x7_longestRiver (by decide +kernel) rfl) rfl (G_stI (nx := 33) (by show 5 < 7; decide) (dc54 (x := 5) bs_x7_longestRiver (by decide +kernel)) rfl (G_ldIn (n := 2) (nx := 34) (dc28 bs_x7_longestRiver (by decide +kernel)) rfl rfl (G_ldAn (n := 0) (nx := 35) (dc42 bs_x7_longestRiver (by decide +kernel)) rfl rfl (G_ldAn (n := 1) (nx := 36) (dc43 bs_x7_longestRiver (by decide +kernel)) rfl rfl (G_ldIn (n := 3) (nx := 37) (dc29 bs_x7_longestRiver (by decide +kernel)) rfl rfl (G_ldI (nx := 39) (dc21 (x := 5) bs_x7_longestRiver (by decide +kernel)) rfl (G_callV (b0 := 0) (nx := 42) (T := TX7) (ci := 7) (g_Fn_of rfl h_x7_flowThrough) (cw_7_126) ⟨wd5_7, sel_GalleyRoom_Sheet_flowThrough__LGalleyRoom_Galley_II_I⟩ ⟨rfl, rfl⟩ ⟨by decide, by show 7 ≤ 21; decide⟩ (Nat.zero_le _) (rec_x7_flowThrough _) (dc182 (x := 0) (y := 126) bs_x7_longestRiver (by decide +kernel) rfl) rfl (G_max (nx := 45) ⟨wd5_10, wd2_22, wd1_10, wd2_23⟩ (by decide) (dc184 (x := 0) (y := 115) bs_x7_longestRiver (by decide +kernel) rfl) rfl (G_stIn (n := 2) (nx := 46) (by show 2 < 7; decide) (dc61 bs_x7_longestRiver (by decide +kernel)) rfl rfl (G_ldAn (n := 0) (nx := 47) (dc42 bs_x7_longestRiver (by decide +kernel)) rfl rfl (G_getD (nx := 50) fl_7_16 rfl (dc180 (x := 0) (y := 16) bs_x7_longestRiver (by decide +kernel) rfl) rfl (G_stA (nx := 52) (by show 6 < 7; decide) (dc58 (x := 6) bs_x7_longestRiver (by decide +kernel)) rfl (G_ldAn (n := 0) (nx := 53) (dc42 bs_x7_longestRiver (by decide +kernel)) rfl rfl (G_ldAn (n := 0) (nx := 54) (dc42 bs_x7_longestRiver (by decide +kernel)) rfl rfl (G_getD (nx := 57) fl_7_20 rfl (dc180 (x := 0) (y := 20) bs_x7_longestRiver (by decide +kernel) rfl) rfl (G_putD (nx := 60) fp_7_16 rfl (dc181 (x := 0) (y := 16) bs_x7_longestRiver (by decide +kernel) rfl) rfl (G_ldAn (n := 0) (nx := 61) (dc42 bs_x7_longestRiver (by decide +kernel)) rfl rfl (G_ldA (nx := 63) (dc25 (x := 6) bs_x7_longestRiver (by decide +kernel)) rfl (G_putD (nx := 66) fp_7_20 rfl (dc181 (x := 0) (y := 20) bs_x7_longestRiver (by decide +kernel) rfl) rfl (G_ldI (nx := 68) (dc21 (x := 5) bs_x7_longestRiver (by decide +kernel)) rfl (G_stIn (n := 3) (nx := 69) (by show 3 < 7; decide) (dc62 bs_x7_longestRiver (by decide +kernel)) rfl rfl (G_inc (n := 1) (nx := 72) (by show 4 < 7; decide) (dc132 (x := 4) (y := 1) bs_x7_longestRiver (by decide +kernel) (by decide +kernel)) icv_1 rfl (G_goto (off := -57) (nx := 15) (dc167 (x := 255) (y := 199) bs_x7_longestRiver (by decide +kernel) (by decide +kernel)) (by decide +kernel) (G_lbl (Gp_C <| Gp_R fun a1 => Gp_I fun a2 => Gp_I fun a3 => Gp_I fun a4 => Gp_E fun s r h => hK15 s a1 a2 a3 a4 r h)))))))))))))))))))))))))))))
    (G_ldIn (n := 2) (nx := 76) (dc28 bs_x7_longestRiver (by decide +kernel)) rfl rfl (G_iret rfl (dc172 bs_x7_longestRiver (by decide +kernel))))))))
    exact ht _ _ s r ((e_x7_longestRiver_b15 (x7_longestRiver_b15 n) x7_tellOf x7_flowThrough s g1 l2 l3 l4).symm.trans h)

set_option maxRecDepth 100000 in
set_option maxHeartbeats 4000000 in
theorem h_x7_longestRiver : g_Ft M_x7_longestRiver yX7_longestRiver 2 (FW_x7_longestRiver x7_longestRiver) := by
  intro l w hw σ as hlen hwf hok ρ k r e
  unfold FW_x7_longestRiver at e
  obtain ⟨hh0, e⟩ := p_C_inv e
  obtain ⟨g1, hh1, e⟩ := p_R_inv e
  have e := p_E_inv e
  obtain ⟨q, e1, e2⟩ := Option.bind_eq_some_iff.mp e
  have has : as = [.inr (.inr (some (7, 0))), .inr (.inr (some (1, g1)))] := g_as2 hlen hh0 hh1
  subst has
  have hGo : g_Go M_x7_longestRiver retI (me M_x7_longestRiver) 0 (g_loc [.inr (.inr (some (7, 0))), .inr (.inr (some (1, g1)))] (ml M_x7_longestRiver)) [] σ q := by
    have ht : g_Gd M_x7_longestRiver retI (me M_x7_longestRiver) 0 (t_x7_longestRiver (x7_longestRiver_b15 FU)) := (G_ic (n := 0) (nx := 1) (dc3 bs_x7_longestRiver (by decide +kernel)) icv_0 rfl (G_stIn (n := 2) (nx := 2) (by show 2 < 7; decide) (dc61 bs_x7_longestRiver (by decide +kernel)) rfl rfl (G_ic (n := -1) (nx := 3) (dc2 bs_x7_longestRiver (by decide +kernel)) icv_m1 rfl (G_stIn (n := 3) (nx := 4) (by show 3 < 7; decide) (dc62 bs_x7_longestRiver (by decide +kernel)) rfl rfl (G_ldAn (n := 0) (nx := 5) (dc42 bs_x7_longestRiver (by decide +kernel)) rfl rfl (G_getD (nx := 8) fl_7_16 rfl (dc180 (x := 0) (y := 16) bs_x7_longestRiver (by decide +kernel) rfl) rfl (G_ic (n := 0) (nx := 9) (dc3 bs_x7_longestRiver (by decide +kernel)) icv_0 rfl (G_fillI75 (nx := 12) wd5_2 (by decide) (dc184 (x := 0) (y := 120) bs_x7_longestRiver (by decide +kernel) rfl) rfl (G_ic (n := 0) (nx := 13) (dc3 bs_x7_longestRiver (by decide +kernel)) icv_0 rfl (G_stI (nx := 15) (by show 4 < 7; decide) (dc54 (x := 4) bs_x7_longestRiver (by decide +kernel)) rfl (G_lbl (Gp_C <| Gp_R fun a1 => Gp_I fun a2 => Gp_I fun a3 => Gp_I fun a4 => Gp_E fun s r h => B_x7_longestRiver_b15 FU s a1 a2 a3 a4 r h))))))))))))
    exact ht _ _ σ q ((e_x7_longestRiver (x7_longestRiver_b15 FU) σ g1).symm.trans e1)
  exact g_meth (σ' := q.1) (v := some (.inl q.2)) (by decide) rfl hw hwf hok (Nat.le_of_ble_eq_true rfl) hGo (fun σ2 v2 h => retI_inv h) (by exact e2)

set_option maxRecDepth 100000 in
set_option maxHeartbeats 4000000 in
theorem h_x9_canBeWord : g_Ft M_x9_canBeWord yX9_canBeWord 3 (FW_x9_canBeWord x9_canBeWord) := by
  intro l w hw σ as hlen hwf hok ρ k r e
  unfold FW_x9_canBeWord at e
  obtain ⟨l0, hh0, e⟩ := p_I_inv e
  obtain ⟨l1, hh1, e⟩ := p_I_inv e
  obtain ⟨l2, hh2, e⟩ := p_I_inv e
  have e := p_E_inv e
  obtain ⟨q, e1, e2⟩ := Option.bind_eq_some_iff.mp e
  have has : as = [.inl l0, .inl l1, .inl l2] := g_as3 hlen hh0 hh1 hh2
  subst has
  have hGo : g_Go M_x9_canBeWord retI (me M_x9_canBeWord) 0 (g_loc [.inl l0, .inl l1, .inl l2] (ml M_x9_canBeWord)) [] σ q := by
    have ht : g_Gd M_x9_canBeWord retI (me M_x9_canBeWord) 0 (t_x9_canBeWord) := (G_ldIn (n := 0) (nx := 1) (dc26 bs_x9_canBeWord (by decide +kernel)) rfl rfl (G_ic (n := 1) (nx := 2) (dc4 bs_x9_canBeWord (by decide +kernel)) icv_1 rfl (G_icmplt (off := 31) (tg := 33) (nf := 5) (dc161 (x := 0) (y := 31) bs_x9_canBeWord (by decide +kernel) (by decide +kernel)) (by decide +kernel) rfl
  (G_ic (n := 0) (nx := 34) (dc3 bs_x9_canBeWord (by decide +kernel)) icv_0 rfl (G_zret rfl (dc172 bs_x9_canBeWord (by decide +kernel))))
  (G_ldIn (n := 0) (nx := 6) (dc26 bs_x9_canBeWord (by decide +kernel)) rfl rfl (G_bi (n := 20) (nx := 8) (dc16 (x := 20) bs_x9_canBeWord (by decide +kernel) (by decide +kernel)) biv_20 rfl (G_icmpgt (off := 25) (tg := 33) (nf := 11) (dc163 (x := 0) (y := 25) bs_x9_canBeWord (by decide +kernel) (by decide +kernel)) (by decide +kernel) rfl
    (G_ic (n := 0) (nx := 34) (dc3 bs_x9_canBeWord (by decide +kernel)) icv_0 rfl (G_zret rfl (dc172 bs_x9_canBeWord (by decide +kernel))))
    (G_ldIn (n := 1) (nx := 12) (dc27 bs_x9_canBeWord (by decide +kernel)) rfl rfl (G_iflt (off := 21) (tg := 33) (nf := 15) (dc155 (x := 0) (y := 21) bs_x9_canBeWord (by decide +kernel) (by decide +kernel)) (by decide +kernel) rfl
      (G_ic (n := 0) (nx := 34) (dc3 bs_x9_canBeWord (by decide +kernel)) icv_0 rfl (G_zret rfl (dc172 bs_x9_canBeWord (by decide +kernel))))
      (G_ldIn (n := 1) (nx := 16) (dc27 bs_x9_canBeWord (by decide +kernel)) rfl rfl (G_ldIn (n := 0) (nx := 17) (dc26 bs_x9_canBeWord (by decide +kernel)) rfl rfl (G_icmpge (off := 16) (tg := 33) (nf := 20) (dc162 (x := 0) (y := 16) bs_x9_canBeWord (by decide +kernel) (by decide +kernel)) (by decide +kernel) rfl
        (G_ldIn (n := 2) (nx := 21) (dc28 bs_x9_canBeWord (by decide +kernel)) rfl rfl (G_iflt (off := 12) (tg := 33) (nf := 24) (dc155 (x := 0) (y := 12) bs_x9_canBeWord (by decide +kernel) (by decide +kernel)) (by decide +kernel) rfl
          (G_ic (n := 0) (nx := 34) (dc3 bs_x9_canBeWord (by decide +kernel)) icv_0 rfl (G_zret rfl (dc172 bs_x9_canBeWord (by decide +kernel))))
          (G_ldIn (n := 2) (nx := 25) (dc28 bs_x9_canBeWord (by decide +kernel)) rfl rfl (G_ic (n := 3) (nx := 26) (dc6 bs_x9_canBeWord (by decide +kernel)) icv_3 rfl (G_icmpgt (off := 7) (tg := 33) (nf := 29) (dc163 (x := 0) (y := 7) bs_x9_canBeWord (by decide +kernel) (by decide +kernel)) (by decide +kernel) rfl
            (G_ic (n := 0) (nx := 34) (dc3 bs_x9_canBeWord (by decide +kernel)) icv_0 rfl (G_zret rfl (dc172 bs_x9_canBeWord (by decide +kernel))))
            (G_ic (n := 1) (nx := 30) (dc4 bs_x9_canBeWord (by decide +kernel)) icv_1 rfl (G_goto (off := 4) (nx := 34) (dc167 (x := 0) (y := 4) bs_x9_canBeWord (by decide +kernel) (by decide +kernel)) (by decide +kernel) (G_zret rfl (dc172 bs_x9_canBeWord (by decide +kernel))))))))))
        (G_ic (n := 0) (nx := 34) (dc3 bs_x9_canBeWord (by decide +kernel)) icv_0 rfl (G_zret rfl (dc172 bs_x9_canBeWord (by decide +kernel)))))))))))))))
    exact ht _ _ σ q ((e_x9_canBeWord  σ l0 l1 l2).symm.trans e1)
  exact g_meth (σ' := q.1) (v := some (.inl q.2)) (by decide) rfl hw hwf hok (Nat.le_of_ble_eq_true rfl) hGo (fun σ2 v2 h => retI_inv h) (by exact e2)

set_option maxRecDepth 100000 in
set_option maxHeartbeats 4000000 in
theorem B_x9_refuse_b22 (s : Sg) (l1 : Int32) (y0 : Int32) (r : (Sg × Int32)) (h : x9_refuse_b22 s l1 y0 = some r) : g_Go M_x9_refuse retI 0 22 [some (.inr (.inr (some (9, 0)))), some (.inl l1), none] [.inl y0] s r := by
  have ht : g_Gd M_x9_refuse retI 0 22 (t_x9_refuse_b22) := (G_stIn (n := 2) (nx := 23) (by show 2 < 3; decide) (dc61 bs_x9_refuse (by decide +kernel)) rfl rfl (G_ldIn (n := 2) (nx := 24) (dc28 bs_x9_refuse (by decide +kernel)) rfl rfl (G_iflt (off := 22) (tg := 46) (nf := 27) (dc155 (x := 0) (y := 22) bs_x9_refuse (by decide +kernel) (by decide +kernel)) (by decide +kernel) rfl
    (G_ldIn (n := 1) (nx := 47) (dc27 bs_x9_refuse (by decide +kernel)) rfl rfl (G_iret rfl (dc172 bs_x9_refuse (by decide +kernel))))
    (G_ldIn (n := 2) (nx := 28) (dc28 bs_x9_refuse (by decide +kernel)) rfl rfl (G_ldAn (n := 0) (nx := 29) (dc42 bs_x9_refuse (by decide +kernel)) rfl rfl (G_getRc (nx := 32) fl_9_72 rf_9_12 (dc180 (x := 0) (y := 72) bs_x9_refuse (by decide +kernel) rfl) rfl (G_alen (nx := 33) ak_41 (by decide) (dc190 bs_x9_refuse (by decide +kernel)) rfl (G_icmpge (off := 13) (tg := 46) (nf := 36) (dc162 (x := 0) (y := 13) bs_x9_refuse (by decide +kernel) (by decide +kernel)) (by decide +kernel) rfl
      (G_ldAn (n := 0) (nx := 37) (dc42 bs_x9_refuse (by decide +kernel)) rfl rfl (G_getRc (nx := 40) fl_9_72 rf_9_12 (dc180 (x := 0) (y := 72) bs_x9_refuse (by decide +kernel) rfl) rfl (G_ldIn (n := 2) (nx := 41) (dc28 bs_x9_refuse (by decide +kernel)) rfl rfl (G_dup2 (nx := 42) (dc92 bs_x9_refuse (by decide +kernel)) rfl (G_iald (nx := 43) ak_41 (dc46 bs_x9_refuse (by decide +kernel)) rfl (G_ic (n := 1) (nx := 44) (dc4 bs_x9_refuse (by decide +kernel)) icv_1 rfl (G_iadd (nx := 45) (dc96 bs_x9_refuse (by decide +kernel)) rfl (G_iast (nx := 46) ak_41 (by decide) (dc79 bs_x9_refuse (by decide +kernel)) rfl (G_ldIn (n := 1) (nx := 47) (dc27 bs_x9_refuse (by decide +kernel)) rfl rfl (G_iret rfl (dc172 bs_x9_refuse (by decide +kernel))))))))))))
      (G_ldIn (n := 1) (nx := 47) (dc27 bs_x9_refuse (by decide +kernel)) rfl rfl (G_iret rfl (dc172 bs_x9_refuse (by decide +kernel))))))))))))
  exact ht _ _ s r ((e_x9_refuse_b22  s l1 y0).symm.trans h)

set_option maxRecDepth 100000 in
set_option maxHeartbeats 4000000 in
theorem h_x9_refuse : g_Ft M_x9_refuse yX9_refuse 2 (FW_x9_refuse x9_refuse) := by
  intro l w hw σ as hlen hwf hok ρ k r e
  unfold FW_x9_refuse at e
  obtain ⟨hh0, e⟩ := p_C_inv e
  obtain ⟨l1, hh1, e⟩ := p_I_inv e
  have e := p_E_inv e
  obtain ⟨q, e1, e2⟩ := Option.bind_eq_some_iff.mp e
  have has : as = [.inr (.inr (some (9, 0))), .inl l1] := g_as2 hlen hh0 hh1
  subst has
  have hGo : g_Go M_x9_refuse retI (me M_x9_refuse) 0 (g_loc [.inr (.inr (some (9, 0))), .inl l1] (ml M_x9_refuse)) [] σ q := by
    have ht : g_Gd M_x9_refuse retI (me M_x9_refuse) 0 (t_x9_refuse (x9_refuse_b22)) := (G_ldAn (n := 0) (nx := 1) (dc42 bs_x9_refuse (by decide +kernel)) rfl rfl (G_ldIn (n := 1) (nx := 2) (dc27 bs_x9_refuse (by decide +kernel)) rfl rfl (G_putI (nx := 5) fp_9_312 rfl (dc181 (x := 1) (y := 56) bs_x9_refuse (by decide +kernel) rfl) rfl (G_ldIn (n := 1) (nx := 6) (dc27 bs_x9_refuse (by decide +kernel)) rfl rfl (G_bi (n := -5) (nx := 8) (dc16 (x := 251) bs_x9_refuse (by decide +kernel) (by decide +kernel)) biv_m5 rfl (G_icmple (off := 10) (tg := 18) (nf := 11) (dc164 (x := 0) (y := 10) bs_x9_refuse (by decide +kernel) (by decide +kernel)) (by decide +kernel) rfl
  (G_ldIn (n := 1) (nx := 12) (dc27 bs_x9_refuse (by decide +kernel)) rfl rfl (G_neg (nx := 13) (dc116 bs_x9_refuse (by decide +kernel)) rfl (G_ic (n := 1) (nx := 14) (dc4 bs_x9_refuse (by decide +kernel)) icv_1 rfl (G_isub (nx := 15) (dc100 bs_x9_refuse (by decide +kernel)) rfl (G_goto (off := 7) (nx := 22) (dc167 (x := 0) (y := 7) bs_x9_refuse (by decide +kernel) (by decide +kernel)) (by decide +kernel) (G_lbl (Gp_C <| Gp_I fun a1 => Gq_I fun b0 => Gp_E fun s r h => B_x9_refuse_b22 s a1 b0 r h)))))))
  (G_ldIn (n := 1) (nx := 19) (dc27 bs_x9_refuse (by decide +kernel)) rfl rfl (G_neg (nx := 20) (dc116 bs_x9_refuse (by decide +kernel)) rfl (G_ic (n := 2) (nx := 21) (dc5 bs_x9_refuse (by decide +kernel)) icv_2 rfl (G_isub (nx := 22) (dc100 bs_x9_refuse (by decide +kernel)) rfl (G_lbl (Gp_C <| Gp_I fun a1 => Gq_I fun b0 => Gp_E fun s r h => B_x9_refuse_b22 s a1 b0 r h))))))))))))
    exact ht _ _ σ q ((e_x9_refuse (x9_refuse_b22) σ l1).symm.trans e1)
  exact g_meth (σ' := q.1) (v := some (.inl q.2)) (by decide) rfl hw hwf hok (Nat.le_of_ble_eq_true rfl) hGo (fun σ2 v2 h => retI_inv h) (by exact e2)

set_option maxRecDepth 100000 in
set_option maxHeartbeats 4000000 in
theorem h_x9_answer : g_Ft M_x9_answer yX9_answer 2 (FW_x9_answer x9_answer) := by
  intro l w hw σ as hlen hwf hok ρ k r e
  unfold FW_x9_answer at e
  obtain ⟨hh0, e⟩ := p_C_inv e
  obtain ⟨l1, hh1, e⟩ := p_I_inv e
  have e := p_E_inv e
  obtain ⟨q, e1, e2⟩ := Option.bind_eq_some_iff.mp e
  have has : as = [.inr (.inr (some (9, 0))), .inl l1] := g_as2 hlen hh0 hh1
  subst has
  have hGo : g_Go M_x9_answer retI (me M_x9_answer) 0 (g_loc [.inr (.inr (some (9, 0))), .inl l1] (ml M_x9_answer)) [] σ q := by
    have ht : g_Gd M_x9_answer retI (me M_x9_answer) 0 (t_x9_answer) := (G_ldAn (n := 0) (nx := 1) (dc42 bs_x9_answer (by decide +kernel)) rfl rfl (G_ic (n := 0) (nx := 2) (dc3 bs_x9_answer (by decide +kernel)) icv_0 rfl (G_putI (nx := 5) fp_9_312 rfl (dc181 (x := 1) (y := 56) bs_x9_answer (by decide +kernel) rfl) rfl (G_ldIn (n := 1) (nx := 6) (dc27 bs_x9_answer (by decide +kernel)) rfl rfl (G_iret rfl (dc172 bs_x9_answer (by decide +kernel)))))))
    exact ht _ _ σ q ((e_x9_answer  σ l1).symm.trans e1)
  exact g_meth (σ' := q.1) (v := some (.inl q.2)) (by decide) rfl hw hwf hok (Nat.le_of_ble_eq_true rfl) hGo (fun σ2 v2 h => retI_inv h) (by exact e2)

set_option maxRecDepth 100000 in
set_option maxHeartbeats 4000000 in
theorem h_x9_word : g_Ft M_x9_word yX9_word 4 (FW_x9_word x9_word) := by
  intro l w hw σ as hlen hwf hok ρ k r e
  unfold FW_x9_word at e
  obtain ⟨hh0, e⟩ := p_C_inv e
  obtain ⟨l1, hh1, e⟩ := p_I_inv e
  obtain ⟨l2, hh2, e⟩ := p_I_inv e
  obtain ⟨l3, hh3, e⟩ := p_I_inv e
  have e := p_E_inv e
  obtain ⟨q, e1, e2⟩ := Option.bind_eq_some_iff.mp e
  have has : as = [.inr (.inr (some (9, 0))), .inl l1, .inl l2, .inl l3] := g_as4 hlen hh0 hh1 hh2 hh3
  subst has
  have hGo : g_Go M_x9_word retI (me M_x9_word) 0 (g_loc [.inr (.inr (some (9, 0))), .inl l1, .inl l2, .inl l3] (ml M_x9_word)) [] σ q := by
    have ht : g_Gd M_x9_word retI (me M_x9_word) 0 (t_x9_word x9_canBeWord x9_refuse x1_addWord x9_answer) := (G_ldIn (n := 1) (nx := 1) (dc27 bs_x9_word (by decide +kernel)) rfl rfl (G_ldIn (n := 2) (nx := 2) (dc28 bs_x9_word (by decide +kernel)) rfl rfl (G_ldIn (n := 3) (nx := 3) (dc29 bs_x9_word (by decide +kernel)) rfl rfl (G_callS (b0 := 0) (nx := 6) (g_Fn_of rfl h_x9_canBeWord) (cw_9_80) wd2_182 rfl ⟨by decide, by show 3 ≤ 21; decide⟩ (Nat.zero_le _) (dc184 (x := 0) (y := 80) bs_x9_word (by decide +kernel) rfl) rfl (G_ifne (off := 9) (tg := 15) (nf := 9) (dc154 (x := 0) (y := 9) bs_x9_word (by decide +kernel) (by decide +kernel)) (by decide +kernel) rfl
  (G_ldAn (n := 0) (nx := 10) (dc42 bs_x9_word (by decide +kernel)) rfl rfl (G_ic (n := -1) (nx := 11) (dc2 bs_x9_word (by decide +kernel)) icv_m1 rfl (G_callV (b0 := 0) (nx := 14) (T := TX9) (ci := 9) (g_Fn_of rfl h_x9_refuse) (cw_9_84) ⟨wd2_186, sel_GalleyRoom_refuse__I_I⟩ ⟨rfl, rfl⟩ ⟨by decide, by show 3 ≤ 21; decide⟩ (Nat.zero_le _) (rec_x9_refuse _) (dc182 (x := 0) (y := 84) bs_x9_word (by decide +kernel) rfl) rfl (G_iret rfl (dc172 bs_x9_word (by decide +kernel))))))
  (G_ldAn (n := 0) (nx := 16) (dc42 bs_x9_word (by decide +kernel)) rfl rfl (G_getRc (nx := 19) fl_9_20 rf_9_1 (dc180 (x := 0) (y := 20) bs_x9_word (by decide +kernel) rfl) rfl (G_getI (nx := 22) fl_9_88 (Or.inl rfl) (dc180 (x := 0) (y := 88) bs_x9_word (by decide +kernel) rfl) rfl (G_bi (n := 12) (nx := 24) (dc16 (x := 12) bs_x9_word (by decide +kernel) (by decide +kernel)) biv_12 rfl (G_icmplt (off := 10) (tg := 34) (nf := 27) (dc161 (x := 0) (y := 10) bs_x9_word (by decide +kernel) (by decide +kernel)) (by decide +kernel) rfl
    (G_ldAn (n := 0) (nx := 35) (dc42 bs_x9_word (by decide +kernel)) rfl rfl (G_getRc (nx := 38) fl_9_20 rf_9_1 (dc180 (x := 0) (y := 20) bs_x9_word (by decide +kernel) rfl) rfl (G_ldIn (n := 1) (nx := 39) (dc27 bs_x9_word (by decide +kernel)) rfl rfl (G_ldIn (n := 2) (nx := 40) (dc28 bs_x9_word (by decide +kernel)) rfl rfl (G_ldIn (n := 3) (nx := 41) (dc29 bs_x9_word (by decide +kernel)) rfl rfl (G_callV (b0 := 0) (nx := 44) (T := TX1) (ci := 1) (g_Fn_of rfl h_x1_addWord) (cw_9_91) ⟨wd2_189, wd2_190⟩ ⟨rfl, rfl⟩ ⟨by decide, by show 4 ≤ 21; decide⟩ (Nat.zero_le _) (rec_x1_addWord _) (dc182 (x := 0) (y := 91) bs_x9_word (by decide +kernel) rfl) rfl (G_ldAn (n := 0) (nx := 45) (dc42 bs_x9_word (by decide +kernel)) rfl rfl (G_getRc (nx := 48) fl_9_55 rf_9_8 (dc180 (x := 0) (y := 55) bs_x9_word (by decide +kernel) rfl) rfl (G_ic (n := 0) (nx := 49) (dc3 bs_x9_word (by decide +kernel)) icv_0 rfl (G_putI (nx := 52) fp_9_95 rfl (dc181 (x := 0) (y := 95) bs_x9_word (by decide +kernel) rfl) rfl (G_ldAn (n := 0) (nx := 53) (dc42 bs_x9_word (by decide +kernel)) rfl rfl (G_ldAn (n := 0) (nx := 54) (dc42 bs_x9_word (by decide +kernel)) rfl rfl (G_getRc (nx := 57) fl_9_20 rf_9_1 (dc180 (x := 0) (y := 20) bs_x9_word (by decide +kernel) rfl) rfl (G_getI (nx := 60) fl_9_88 (Or.inl rfl) (dc180 (x := 0) (y := 88) bs_x9_word (by decide +kernel) rfl) rfl (G_ic (n := 1) (nx := 61) (dc4 bs_x9_word (by decide +kernel)) icv_1 rfl (G_isub (nx := 62) (dc100 bs_x9_word (by decide +kernel)) rfl (G_callV (b0 := 0) (nx := 65) (T := TX9) (ci := 9) (g_Fn_of rfl h_x9_answer) (cw_9_100) ⟨wd2_194, sel_GalleyRoom_answer__I_I⟩ ⟨rfl, rfl⟩ ⟨by decide, by show 2 ≤ 21; decide⟩ (Nat.zero_le _) (rec_x9_answer _) (dc182 (x := 0) (y := 100) bs_x9_word (by decide +kernel) rfl) rfl (G_iret rfl (dc172 bs_x9_word (by decide +kernel))))))))))))))))))))
    (G_ldAn (n := 0) (nx := 28) (dc42 bs_x9_word (by decide +kernel)) rfl rfl (G_bi (n := -5) (nx := 30) (dc16 (x := 251) bs_x9_word (by decide +kernel) (by decide +kernel)) biv_m5 rfl (G_callV (b0 := 0) (nx := 33) (T := TX9) (ci := 9) (g_Fn_of rfl h_x9_refuse) (cw_9_84) ⟨wd2_186, sel_GalleyRoom_refuse__I_I⟩ ⟨rfl, rfl⟩ ⟨by decide, by show 3 ≤ 21; decide⟩ (Nat.zero_le _) (rec_x9_refuse _) (dc182 (x := 0) (y := 84) bs_x9_word (by decide +kernel) rfl) rfl (G_iret rfl (dc172 bs_x9_word (by decide +kernel))))))))))))))))
    exact ht _ _ σ q ((e_x9_word x9_canBeWord x9_refuse x1_addWord x9_answer σ l1 l2 l3).symm.trans e1)
  exact g_meth (σ' := q.1) (v := some (.inl q.2)) (by decide) rfl hw hwf hok (Nat.le_of_ble_eq_true rfl) hGo (fun σ2 v2 h => retI_inv h) (by exact e2)

set_option maxRecDepth 100000 in
set_option maxHeartbeats 4000000 in
theorem h_x9_of : g_Ft M_x9_of yX9_of 3 (FW_x9_of x9_of) := by
  intro l w hw σ as hlen hwf hok ρ k r e
  unfold FW_x9_of at e
  obtain ⟨hh0, e⟩ := p_C_inv e
  obtain ⟨l1, hh1, e⟩ := p_I_inv e
  obtain ⟨l2, hh2, e⟩ := p_I_inv e
  have e := p_E_inv e
  obtain ⟨q, e1, e2⟩ := Option.bind_eq_some_iff.mp e
  have has : as = [.inr (.inr (some (9, 0))), .inl l1, .inl l2] := g_as3 hlen hh0 hh1 hh2
  subst has
  have hGo : g_Go M_x9_of retI (me M_x9_of) 0 (g_loc [.inr (.inr (some (9, 0))), .inl l1, .inl l2] (ml M_x9_of)) [] σ q := by
    have ht : g_Gd M_x9_of retI (me M_x9_of) 0 (t_x9_of x1_has x1_endsAfter x1_isSplit) := (G_ldAn (n := 0) (nx := 1) (dc42 bs_x9_of (by decide +kernel)) rfl rfl (G_getRc (nx := 4) fl_9_20 rf_9_1 (dc180 (x := 0) (y := 20) bs_x9_of (by decide +kernel) rfl) rfl (G_ldIn (n := 1) (nx := 5) (dc27 bs_x9_of (by decide +kernel)) rfl rfl (G_callV (b0 := 0) (nx := 8) (T := TX1) (ci := 1) (g_Fn_of rfl h_x1_has) (cw_9_103) ⟨wd2_201, wd2_202⟩ ⟨rfl, rfl⟩ ⟨by decide, by show 2 ≤ 21; decide⟩ (Nat.zero_le _) (rec_x1_has _) (dc182 (x := 0) (y := 103) bs_x9_of (by decide +kernel) rfl) rfl (G_ifne (off := 5) (tg := 13) (nf := 11) (dc154 (x := 0) (y := 5) bs_x9_of (by decide +kernel) (by decide +kernel)) (by decide +kernel) rfl
  (G_ic (n := -1) (nx := 12) (dc2 bs_x9_of (by decide +kernel)) icv_m1 rfl (G_iret rfl (dc172 bs_x9_of (by decide +kernel))))
  (G_ldIn (n := 2) (nx := 14) (dc28 bs_x9_of (by decide +kernel)) rfl rfl (G_sw (dflt := 98) (lo := 0) (hi := 4) (offs := #[34, 44, 54, 64, 81]) (len := 34) (td := 112) (by decide +kernel) (by decide +kernel)
    (List.forall_mem_cons.mpr ⟨⟨34, 48, by decide +kernel, by decide +kernel, by decide +kernel, by decide +kernel,
    (G_ldAn (n := 0) (nx := 49) (dc42 bs_x9_of (by decide +kernel)) rfl rfl (G_getRc (nx := 52) fl_9_20 rf_9_1 (dc180 (x := 0) (y := 20) bs_x9_of (by decide +kernel) rfl) rfl (G_getRv (nx := 55) fl_9_107 rf_1_0 (dc180 (x := 0) (y := 107) bs_x9_of (by decide +kernel) rfl) rfl (G_ldIn (n := 1) (nx := 56) (dc27 bs_x9_of (by decide +kernel)) rfl rfl (G_iald (nx := 57) ak_12 (dc46 bs_x9_of (by decide +kernel)) rfl (G_iret rfl (dc172 bs_x9_of (by decide +kernel))))))))⟩, List.forall_mem_cons.mpr ⟨⟨44, 58, by decide +kernel, by decide +kernel, by decide +kernel, by decide +kernel,
    (G_ldAn (n := 0) (nx := 59) (dc42 bs_x9_of (by decide +kernel)) rfl rfl (G_getRc (nx := 62) fl_9_20 rf_9_1 (dc180 (x := 0) (y := 20) bs_x9_of (by decide +kernel) rfl) rfl (G_getRv (nx := 65) fl_9_110 rf_1_1 (dc180 (x := 0) (y := 110) bs_x9_of (by decide +kernel) rfl) rfl (G_ldIn (n := 1) (nx := 66) (dc27 bs_x9_of (by decide +kernel)) rfl rfl (G_iald (nx := 67) ak_13 (dc46 bs_x9_of (by decide +kernel)) rfl (G_iret rfl (dc172 bs_x9_of (by decide +kernel))))))))⟩, List.forall_mem_cons.mpr ⟨⟨54, 68, by decide +kernel, by decide +kernel, by decide +kernel, by decide +kernel,
    (G_ldAn (n := 0) (nx := 69) (dc42 bs_x9_of (by decide +kernel)) rfl rfl (G_getRc (nx := 72) fl_9_20 rf_9_1 (dc180 (x := 0) (y := 20) bs_x9_of (by decide +kernel) rfl) rfl (G_getRv (nx := 75) fl_9_113 rf_1_2 (dc180 (x := 0) (y := 113) bs_x9_of (by decide +kernel) rfl) rfl (G_ldIn (n := 1) (nx := 76) (dc27 bs_x9_of (by decide +kernel)) rfl rfl (G_iald (nx := 77) ak_14 (dc46 bs_x9_of (by decide +kernel)) rfl (G_iret rfl (dc172 bs_x9_of (by decide +kernel))))))))⟩, List.forall_mem_cons.mpr ⟨⟨64, 78, by decide +kernel, by decide +kernel, by decide +kernel, by decide +kernel,
    (G_ldAn (n := 0) (nx := 79) (dc42 bs_x9_of (by decide +kernel)) rfl rfl (G_getRc (nx := 82) fl_9_20 rf_9_1 (dc180 (x := 0) (y := 20) bs_x9_of (by decide +kernel) rfl) rfl (G_ldIn (n := 1) (nx := 83) (dc27 bs_x9_of (by decide +kernel)) rfl rfl (G_callV (b0 := 0) (nx := 86) (T := TX1) (ci := 1) (g_Fn_of rfl h_x1_endsAfter) (cw_9_116) ⟨wd2_205, wd2_206⟩ ⟨rfl, rfl⟩ ⟨by decide, by show 2 ≤ 21; decide⟩ (Nat.zero_le _) (rec_x1_endsAfter _) (dc182 (x := 0) (y := 116) bs_x9_of (by decide +kernel) rfl) rfl (G_ifeq (off := 7) (tg := 93) (nf := 89) (dc153 (x := 0) (y := 7) bs_x9_of (by decide +kernel) (by decide +kernel)) (by decide +kernel) rfl
      (G_ic (n := 0) (nx := 94) (dc3 bs_x9_of (by decide +kernel)) icv_0 rfl (G_iret rfl (dc172 bs_x9_of (by decide +kernel))))
      (G_ic (n := 1) (nx := 90) (dc4 bs_x9_of (by decide +kernel)) icv_1 rfl (G_goto (off := 4) (nx := 94) (dc167 (x := 0) (y := 4) bs_x9_of (by decide +kernel) (by decide +kernel)) (by decide +kernel) (G_iret rfl (dc172 bs_x9_of (by decide +kernel))))))))))⟩, List.forall_mem_cons.mpr ⟨⟨81, 95, by decide +kernel, by decide +kernel, by decide +kernel, by decide +kernel,
    (G_ldAn (n := 0) (nx := 96) (dc42 bs_x9_of (by decide +kernel)) rfl rfl (G_getRc (nx := 99) fl_9_20 rf_9_1 (dc180 (x := 0) (y := 20) bs_x9_of (by decide +kernel) rfl) rfl (G_ldIn (n := 1) (nx := 100) (dc27 bs_x9_of (by decide +kernel)) rfl rfl (G_callV (b0 := 0) (nx := 103) (T := TX1) (ci := 1) (g_Fn_of rfl h_x1_isSplit) (cw_9_119) ⟨wd2_210, wd2_211⟩ ⟨rfl, rfl⟩ ⟨by decide, by show 2 ≤ 21; decide⟩ (Nat.zero_le _) (rec_x1_isSplit _) (dc182 (x := 0) (y := 119) bs_x9_of (by decide +kernel) rfl) rfl (G_ifeq (off := 7) (tg := 110) (nf := 106) (dc153 (x := 0) (y := 7) bs_x9_of (by decide +kernel) (by decide +kernel)) (by decide +kernel) rfl
      (G_ic (n := 0) (nx := 111) (dc3 bs_x9_of (by decide +kernel)) icv_0 rfl (G_iret rfl (dc172 bs_x9_of (by decide +kernel))))
      (G_ic (n := 1) (nx := 107) (dc4 bs_x9_of (by decide +kernel)) icv_1 rfl (G_goto (off := 4) (nx := 111) (dc167 (x := 0) (y := 4) bs_x9_of (by decide +kernel) (by decide +kernel)) (by decide +kernel) (G_iret rfl (dc172 bs_x9_of (by decide +kernel))))))))))⟩, fun _ h => absurd h List.not_mem_nil⟩⟩⟩⟩⟩)
    (g_swall _ (by decide +kernel) rfl)
    (G_ic (n := -1) (nx := 113) (dc2 bs_x9_of (by decide +kernel)) icv_m1 rfl (G_iret rfl (dc172 bs_x9_of (by decide +kernel)))))))))))
    exact ht _ _ σ q ((e_x9_of x1_has x1_endsAfter x1_isSplit σ l1 l2).symm.trans e1)
  exact g_meth (σ' := q.1) (v := some (.inl q.2)) (by decide) rfl hw hwf hok (Nat.le_of_ble_eq_true rfl) hGo (fun σ2 v2 h => retI_inv h) (by exact e2)

set_option maxRecDepth 100000 in
set_option maxHeartbeats 4000000 in
theorem h_x9_line : g_Ft M_x9_line yX9_line 3 (FW_x9_line x9_line) := by
  intro l w hw σ as hlen hwf hok ρ k r e
  unfold FW_x9_line at e
  obtain ⟨hh0, e⟩ := p_C_inv e
  obtain ⟨l1, hh1, e⟩ := p_I_inv e
  obtain ⟨l2, hh2, e⟩ := p_I_inv e
  have e := p_E_inv e
  obtain ⟨q, e1, e2⟩ := Option.bind_eq_some_iff.mp e
  have has : as = [.inr (.inr (some (9, 0))), .inl l1, .inl l2] := g_as3 hlen hh0 hh1 hh2
  subst has
  have hGo : g_Go M_x9_line retI (me M_x9_line) 0 (g_loc [.inr (.inr (some (9, 0))), .inl l1, .inl l2] (ml M_x9_line)) [] σ q := by
    have ht : g_Gd M_x9_line retI (me M_x9_line) 0 (t_x9_line x7_readSetting x7_tellOf) := (G_ldIn (n := 2) (nx := 1) (dc28 bs_x9_line (by decide +kernel)) rfl rfl (G_iflt (off := 9) (tg := 10) (nf := 4) (dc155 (x := 0) (y := 9) bs_x9_line (by decide +kernel) (by decide +kernel)) (by decide +kernel) rfl
  (G_ic (n := -1) (nx := 11) (dc2 bs_x9_line (by decide +kernel)) icv_m1 rfl (G_iret rfl (dc172 bs_x9_line (by decide +kernel))))
  (G_ldIn (n := 2) (nx := 5) (dc28 bs_x9_line (by decide +kernel)) rfl rfl (G_bi (n := 7) (nx := 7) (dc16 (x := 7) bs_x9_line (by decide +kernel) (by decide +kernel)) biv_7 rfl (G_icmplt (off := 5) (tg := 12) (nf := 10) (dc161 (x := 0) (y := 5) bs_x9_line (by decide +kernel) (by decide +kernel)) (by decide +kernel) rfl
    (G_ldAn (n := 0) (nx := 13) (dc42 bs_x9_line (by decide +kernel)) rfl rfl (G_getRc (nx := 16) fl_9_60 rf_9_9 (dc180 (x := 0) (y := 60) bs_x9_line (by decide +kernel) rfl) rfl (G_ldAn (n := 0) (nx := 17) (dc42 bs_x9_line (by decide +kernel)) rfl rfl (G_getRc (nx := 20) fl_9_20 rf_9_1 (dc180 (x := 0) (y := 20) bs_x9_line (by decide +kernel) rfl) rfl (G_callV (b0 := 0) (nx := 23) (T := TX7) (ci := 7) (g_Fn_of rfl h_x7_readSetting) (cw_9_122) ⟨wd2_218, wd2_219⟩ ⟨rfl, rfl⟩ ⟨by decide, by show 4 ≤ 21; decide⟩ (Nat.zero_le _) (rec_x7_readSetting _) (dc182 (x := 0) (y := 122) bs_x9_line (by decide +kernel) rfl) rfl (G_ldIn (n := 1) (nx := 24) (dc27 bs_x9_line (by decide +kernel)) rfl rfl (G_iflt (off := 26) (tg := 50) (nf := 27) (dc155 (x := 0) (y := 26) bs_x9_line (by decide +kernel) (by decide +kernel)) (by decide +kernel) rfl
      (G_ic (n := -1) (nx := 51) (dc2 bs_x9_line (by decide +kernel)) icv_m1 rfl (G_iret rfl (dc172 bs_x9_line (by decide +kernel))))
      (G_ldIn (n := 1) (nx := 28) (dc27 bs_x9_line (by decide +kernel)) rfl rfl (G_ldAn (n := 0) (nx := 29) (dc42 bs_x9_line (by decide +kernel)) rfl rfl (G_getRc (nx := 32) fl_9_60 rf_9_9 (dc180 (x := 0) (y := 60) bs_x9_line (by decide +kernel) rfl) rfl (G_getI (nx := 35) fl_9_128 (Or.inl rfl) (dc180 (x := 0) (y := 128) bs_x9_line (by decide +kernel) rfl) rfl (G_icmpge (off := 15) (tg := 50) (nf := 38) (dc162 (x := 0) (y := 15) bs_x9_line (by decide +kernel) (by decide +kernel)) (by decide +kernel) rfl
        (G_ldAn (n := 0) (nx := 39) (dc42 bs_x9_line (by decide +kernel)) rfl rfl (G_getRc (nx := 42) fl_9_60 rf_9_9 (dc180 (x := 0) (y := 60) bs_x9_line (by decide +kernel) rfl) rfl (G_ldIn (n := 2) (nx := 43) (dc28 bs_x9_line (by decide +kernel)) rfl rfl (G_ldIn (n := 1) (nx := 44) (dc27 bs_x9_line (by decide +kernel)) rfl rfl (G_callV (b0 := 0) (nx := 47) (T := TX7) (ci := 7) (g_Fn_of rfl h_x7_tellOf) (cw_9_131) ⟨wd3_40, wd3_41⟩ ⟨rfl, rfl⟩ ⟨by decide, by show 3 ≤ 21; decide⟩ (Nat.zero_le _) (rec_x7_tellOf _) (dc182 (x := 0) (y := 131) bs_x9_line (by decide +kernel) rfl) rfl (G_goto (off := 4) (nx := 51) (dc167 (x := 0) (y := 4) bs_x9_line (by decide +kernel) (by decide +kernel)) (by decide +kernel) (G_iret rfl (dc172 bs_x9_line (by decide +kernel)))))))))
        (G_ic (n := -1) (nx := 51) (dc2 bs_x9_line (by decide +kernel)) icv_m1 rfl (G_iret rfl (dc172 bs_x9_line (by decide +kernel))))))))))))))))
    (G_ic (n := -1) (nx := 11) (dc2 bs_x9_line (by decide +kernel)) icv_m1 rfl (G_iret rfl (dc172 bs_x9_line (by decide +kernel)))))))))
    exact ht _ _ σ q ((e_x9_line x7_readSetting x7_tellOf σ l1 l2).symm.trans e1)
  exact g_meth (σ' := q.1) (v := some (.inl q.2)) (by decide) rfl hw hwf hok (Nat.le_of_ble_eq_true rfl) hGo (fun σ2 v2 h => retI_inv h) (by exact e2)

set_option maxRecDepth 100000 in
set_option maxHeartbeats 4000000 in
theorem h_x9_all : g_Ft M_x9_all yX9_all 2 (FW_x9_all x9_all) := by
  intro l w hw σ as hlen hwf hok ρ k r e
  unfold FW_x9_all at e
  obtain ⟨hh0, e⟩ := p_C_inv e
  obtain ⟨l1, hh1, e⟩ := p_I_inv e
  have e := p_E_inv e
  obtain ⟨q, e1, e2⟩ := Option.bind_eq_some_iff.mp e
  have has : as = [.inr (.inr (some (9, 0))), .inl l1] := g_as2 hlen hh0 hh1
  subst has
  have hGo : g_Go M_x9_all retI (me M_x9_all) 0 (g_loc [.inr (.inr (some (9, 0))), .inl l1] (ml M_x9_all)) [] σ q := by
    have ht : g_Gd M_x9_all retI (me M_x9_all) 0 (t_x9_all x7_readSetting x7_together) := (G_ldAn (n := 0) (nx := 1) (dc42 bs_x9_all (by decide +kernel)) rfl rfl (G_getRc (nx := 4) fl_9_60 rf_9_9 (dc180 (x := 0) (y := 60) bs_x9_all (by decide +kernel) rfl) rfl (G_ldAn (n := 0) (nx := 5) (dc42 bs_x9_all (by decide +kernel)) rfl rfl (G_getRc (nx := 8) fl_9_20 rf_9_1 (dc180 (x := 0) (y := 20) bs_x9_all (by decide +kernel) rfl) rfl (G_callV (b0 := 0) (nx := 11) (T := TX7) (ci := 7) (g_Fn_of rfl h_x7_readSetting) (cw_9_122) ⟨wd2_218, wd2_219⟩ ⟨rfl, rfl⟩ ⟨by decide, by show 4 ≤ 21; decide⟩ (Nat.zero_le _) (rec_x7_readSetting _) (dc182 (x := 0) (y := 122) bs_x9_all (by decide +kernel) rfl) rfl (G_ldIn (n := 1) (nx := 12) (dc27 bs_x9_all (by decide +kernel)) rfl rfl (G_sw (dflt := 56) (lo := 0) (hi := 2) (offs := #[28, 37, 46]) (len := 28) (td := 68) (by decide +kernel) (by decide +kernel)
  (List.forall_mem_cons.mpr ⟨⟨28, 40, by decide +kernel, by decide +kernel, by decide +kernel, by decide +kernel,
  (G_ldAn (n := 0) (nx := 41) (dc42 bs_x9_all (by decide +kernel)) rfl rfl (G_getRc (nx := 44) fl_9_60 rf_9_9 (dc180 (x := 0) (y := 60) bs_x9_all (by decide +kernel) rfl) rfl (G_ic (n := 3) (nx := 45) (dc6 bs_x9_all (by decide +kernel)) icv_3 rfl (G_callV (b0 := 0) (nx := 48) (T := TX7) (ci := 7) (g_Fn_of rfl h_x7_together) (cw_9_135) ⟨wd3_48, wd3_49⟩ ⟨rfl, rfl⟩ ⟨by decide, by show 4 ≤ 21; decide⟩ (Nat.zero_le _) (rec_x7_together _) (dc182 (x := 0) (y := 135) bs_x9_all (by decide +kernel) rfl) rfl (G_iret rfl (dc172 bs_x9_all (by decide +kernel)))))))⟩, List.forall_mem_cons.mpr ⟨⟨37, 49, by decide +kernel, by decide +kernel, by decide +kernel, by decide +kernel,
  (G_ldAn (n := 0) (nx := 50) (dc42 bs_x9_all (by decide +kernel)) rfl rfl (G_getRc (nx := 53) fl_9_60 rf_9_9 (dc180 (x := 0) (y := 60) bs_x9_all (by decide +kernel) rfl) rfl (G_ic (n := 4) (nx := 54) (dc7 bs_x9_all (by decide +kernel)) icv_4 rfl (G_callV (b0 := 0) (nx := 57) (T := TX7) (ci := 7) (g_Fn_of rfl h_x7_together) (cw_9_135) ⟨wd3_48, wd3_49⟩ ⟨rfl, rfl⟩ ⟨by decide, by show 4 ≤ 21; decide⟩ (Nat.zero_le _) (rec_x7_together _) (dc182 (x := 0) (y := 135) bs_x9_all (by decide +kernel) rfl) rfl (G_iret rfl (dc172 bs_x9_all (by decide +kernel)))))))⟩, List.forall_mem_cons.mpr ⟨⟨46, 58, by decide +kernel, by decide +kernel, by decide +kernel, by decide +kernel,
  (G_ldAn (n := 0) (nx := 59) (dc42 bs_x9_all (by decide +kernel)) rfl rfl (G_getRc (nx := 62) fl_9_60 rf_9_9 (dc180 (x := 0) (y := 60) bs_x9_all (by decide +kernel) rfl) rfl (G_bi (n := 6) (nx := 64) (dc16 (x := 6) bs_x9_all (by decide +kernel) (by decide +kernel)) biv_6 rfl (G_callV (b0 := 0) (nx := 67) (T := TX7) (ci := 7) (g_Fn_of rfl h_x7_together) (cw_9_135) ⟨wd3_48, wd3_49⟩ ⟨rfl, rfl⟩ ⟨by decide, by show 4 ≤ 21; decide⟩ (Nat.zero_le _) (rec_x7_together _) (dc182 (x := 0) (y := 135) bs_x9_all (by decide +kernel) rfl) rfl (G_iret rfl (dc172 bs_x9_all (by decide +kernel)))))))⟩, fun _ h => absurd h List.not_mem_nil⟩⟩⟩)
  (g_swall _ (by decide +kernel) rfl)
  (G_ic (n := -1) (nx := 69) (dc2 bs_x9_all (by decide +kernel)) icv_m1 rfl (G_iret rfl (dc172 bs_x9_all (by decide +kernel)))))))))))
    exact ht _ _ σ q ((e_x9_all x7_readSetting x7_together σ l1).symm.trans e1)
  exact g_meth (σ' := q.1) (v := some (.inl q.2)) (by decide) rfl hw hwf hok (Nat.le_of_ble_eq_true rfl) hGo (fun σ2 v2 h => retI_inv h) (by exact e2)

set_option maxRecDepth 100000 in
set_option maxHeartbeats 4000000 in
theorem h_x9_terms : g_Ft M_x9_terms yX9_terms 3 (FW_x9_terms x9_terms) := by
  intro l w hw σ as hlen hwf hok ρ k r e
  unfold FW_x9_terms at e
  obtain ⟨hh0, e⟩ := p_C_inv e
  obtain ⟨l1, hh1, e⟩ := p_I_inv e
  obtain ⟨l2, hh2, e⟩ := p_I_inv e
  have e := p_E_inv e
  obtain ⟨q, e1, e2⟩ := Option.bind_eq_some_iff.mp e
  have has : as = [.inr (.inr (some (9, 0))), .inl l1, .inl l2] := g_as3 hlen hh0 hh1 hh2
  subst has
  have hGo : g_Go M_x9_terms retI (me M_x9_terms) 0 (g_loc [.inr (.inr (some (9, 0))), .inl l1, .inl l2] (ml M_x9_terms)) [] σ q := by
    have ht : g_Gd M_x9_terms retI (me M_x9_terms) 0 (t_x9_terms x9_refuse x9_answer) := (G_ldIn (n := 1) (nx := 1) (dc27 bs_x9_terms (by decide +kernel)) rfl rfl (G_iflt (off := 26) (tg := 27) (nf := 4) (dc155 (x := 0) (y := 26) bs_x9_terms (by decide +kernel) (by decide +kernel)) (by decide +kernel) rfl
  (G_ldAn (n := 0) (nx := 28) (dc42 bs_x9_terms (by decide +kernel)) rfl rfl (G_ic (n := -1) (nx := 29) (dc2 bs_x9_terms (by decide +kernel)) icv_m1 rfl (G_callV (b0 := 0) (nx := 32) (T := TX9) (ci := 9) (g_Fn_of rfl h_x9_refuse) (cw_9_84) ⟨wd2_186, sel_GalleyRoom_refuse__I_I⟩ ⟨rfl, rfl⟩ ⟨by decide, by show 3 ≤ 21; decide⟩ (Nat.zero_le _) (rec_x9_refuse _) (dc182 (x := 0) (y := 84) bs_x9_terms (by decide +kernel) rfl) rfl (G_iret rfl (dc172 bs_x9_terms (by decide +kernel))))))
  (G_ldIn (n := 1) (nx := 5) (dc27 bs_x9_terms (by decide +kernel)) rfl rfl (G_ic (n := 3) (nx := 6) (dc6 bs_x9_terms (by decide +kernel)) icv_3 rfl (G_icmpgt (off := 21) (tg := 27) (nf := 9) (dc163 (x := 0) (y := 21) bs_x9_terms (by decide +kernel) (by decide +kernel)) (by decide +kernel) rfl
    (G_ldAn (n := 0) (nx := 28) (dc42 bs_x9_terms (by decide +kernel)) rfl rfl (G_ic (n := -1) (nx := 29) (dc2 bs_x9_terms (by decide +kernel)) icv_m1 rfl (G_callV (b0 := 0) (nx := 32) (T := TX9) (ci := 9) (g_Fn_of rfl h_x9_refuse) (cw_9_84) ⟨wd2_186, sel_GalleyRoom_refuse__I_I⟩ ⟨rfl, rfl⟩ ⟨by decide, by show 3 ≤ 21; decide⟩ (Nat.zero_le _) (rec_x9_refuse _) (dc182 (x := 0) (y := 84) bs_x9_terms (by decide +kernel) rfl) rfl (G_iret rfl (dc172 bs_x9_terms (by decide +kernel))))))
    (G_ldIn (n := 2) (nx := 10) (dc28 bs_x9_terms (by decide +kernel)) rfl rfl (G_gets (nx := 13) (nm := "LEAST_TERM") (Or.inl ⟨rfl, rfl⟩) rfl (Or.inl wd3_56) (dc178 (x := 0) (y := 138) bs_x9_terms (by decide +kernel) rfl) rfl (G_ldIn (n := 1) (nx := 14) (dc27 bs_x9_terms (by decide +kernel)) rfl rfl (G_ialdx (nx := 15) ax_76 (dc46 bs_x9_terms (by decide +kernel)) rfl (G_icmplt (off := 12) (tg := 27) (nf := 18) (dc161 (x := 0) (y := 12) bs_x9_terms (by decide +kernel) (by decide +kernel)) (by decide +kernel) rfl
      (G_ldAn (n := 0) (nx := 28) (dc42 bs_x9_terms (by decide +kernel)) rfl rfl (G_ic (n := -1) (nx := 29) (dc2 bs_x9_terms (by decide +kernel)) icv_m1 rfl (G_callV (b0 := 0) (nx := 32) (T := TX9) (ci := 9) (g_Fn_of rfl h_x9_refuse) (cw_9_84) ⟨wd2_186, sel_GalleyRoom_refuse__I_I⟩ ⟨rfl, rfl⟩ ⟨by decide, by show 3 ≤ 21; decide⟩ (Nat.zero_le _) (rec_x9_refuse _) (dc182 (x := 0) (y := 84) bs_x9_terms (by decide +kernel) rfl) rfl (G_iret rfl (dc172 bs_x9_terms (by decide +kernel))))))
      (G_ldIn (n := 2) (nx := 19) (dc28 bs_x9_terms (by decide +kernel)) rfl rfl (G_gets (nx := 22) (nm := "MOST_TERM") (Or.inr (Or.inl ⟨rfl, rfl⟩)) rfl (Or.inl wd3_58) (dc178 (x := 0) (y := 141) bs_x9_terms (by decide +kernel) rfl) rfl (G_ldIn (n := 1) (nx := 23) (dc27 bs_x9_terms (by decide +kernel)) rfl rfl (G_ialdx (nx := 24) ax_77 (dc46 bs_x9_terms (by decide +kernel)) rfl (G_icmple (off := 9) (tg := 33) (nf := 27) (dc164 (x := 0) (y := 9) bs_x9_terms (by decide +kernel) (by decide +kernel)) (by decide +kernel) rfl
        (G_ldAn (n := 0) (nx := 28) (dc42 bs_x9_terms (by decide +kernel)) rfl rfl (G_ic (n := -1) (nx := 29) (dc2 bs_x9_terms (by decide +kernel)) icv_m1 rfl (G_callV (b0 := 0) (nx := 32) (T := TX9) (ci := 9) (g_Fn_of rfl h_x9_refuse) (cw_9_84) ⟨wd2_186, sel_GalleyRoom_refuse__I_I⟩ ⟨rfl, rfl⟩ ⟨by decide, by show 3 ≤ 21; decide⟩ (Nat.zero_le _) (rec_x9_refuse _) (dc182 (x := 0) (y := 84) bs_x9_terms (by decide +kernel) rfl) rfl (G_iret rfl (dc172 bs_x9_terms (by decide +kernel))))))
        (G_ldAn (n := 0) (nx := 34) (dc42 bs_x9_terms (by decide +kernel)) rfl rfl (G_getRc (nx := 37) fl_9_20 rf_9_1 (dc180 (x := 0) (y := 20) bs_x9_terms (by decide +kernel) rfl) rfl (G_getRv (nx := 40) fl_9_144 rf_1_3 (dc180 (x := 0) (y := 144) bs_x9_terms (by decide +kernel) rfl) rfl (G_ldIn (n := 1) (nx := 41) (dc27 bs_x9_terms (by decide +kernel)) rfl rfl (G_iald (nx := 42) ak_15 (dc46 bs_x9_terms (by decide +kernel)) rfl (G_stIn (n := 3) (nx := 43) (by show 3 < 4; decide) (dc62 bs_x9_terms (by decide +kernel)) rfl rfl (G_ldAn (n := 0) (nx := 44) (dc42 bs_x9_terms (by decide +kernel)) rfl rfl (G_getRc (nx := 47) fl_9_20 rf_9_1 (dc180 (x := 0) (y := 20) bs_x9_terms (by decide +kernel) rfl) rfl (G_getRv (nx := 50) fl_9_144 rf_1_3 (dc180 (x := 0) (y := 144) bs_x9_terms (by decide +kernel) rfl) rfl (G_ldIn (n := 1) (nx := 51) (dc27 bs_x9_terms (by decide +kernel)) rfl rfl (G_ldIn (n := 2) (nx := 52) (dc28 bs_x9_terms (by decide +kernel)) rfl rfl (G_iast (nx := 53) ak_15 (by decide) (dc79 bs_x9_terms (by decide +kernel)) rfl (G_ldAn (n := 0) (nx := 54) (dc42 bs_x9_terms (by decide +kernel)) rfl rfl (G_getRc (nx := 57) fl_9_55 rf_9_8 (dc180 (x := 0) (y := 55) bs_x9_terms (by decide +kernel) rfl) rfl (G_ic (n := 0) (nx := 58) (dc3 bs_x9_terms (by decide +kernel)) icv_0 rfl (G_putI (nx := 61) fp_9_95 rfl (dc181 (x := 0) (y := 95) bs_x9_terms (by decide +kernel) rfl) rfl (G_ldAn (n := 0) (nx := 62) (dc42 bs_x9_terms (by decide +kernel)) rfl rfl (G_ldIn (n := 3) (nx := 63) (dc29 bs_x9_terms (by decide +kernel)) rfl rfl (G_callV (b0 := 0) (nx := 66) (T := TX9) (ci := 9) (g_Fn_of rfl h_x9_answer) (cw_9_100) ⟨wd2_194, sel_GalleyRoom_answer__I_I⟩ ⟨rfl, rfl⟩ ⟨by decide, by show 2 ≤ 21; decide⟩ (Nat.zero_le _) (rec_x9_answer _) (dc182 (x := 0) (y := 100) bs_x9_terms (by decide +kernel) rfl) rfl (G_iret rfl (dc172 bs_x9_terms (by decide +kernel)))))))))))))))))))))))))))))))))))))
    exact ht _ _ σ q ((e_x9_terms x9_refuse x9_answer σ l1 l2).symm.trans e1)
  exact g_meth (σ' := q.1) (v := some (.inl q.2)) (by decide) rfl hw hwf hok (Nat.le_of_ble_eq_true rfl) hGo (fun σ2 v2 h => retI_inv h) (by exact e2)

set_option maxRecDepth 100000 in
set_option maxHeartbeats 4000000 in
theorem B_x9_putFour_b3 : ∀ (n : Nat) (s : Sg) (l1 : Int32) (l2 : Int32) (r : Sg), x9_putFour_b3 n s l1 l2 = some r → g_Go M_x9_putFour retV 0 3 [some (.inr (.inr (some (9, 0)))), some (.inl l1), some (.inl l2)] [] s r := by
  intro n
  induction n with
  | zero => intro s l1 l2 r h; cases h
  | succ n hK3 =>
    intro s l1 l2 r h
    have ht : g_Gd M_x9_putFour retV 0 3 (t_x9_putFour_b3 (x9_putFour_b3 n)) := (G_ldIn (n := 2) (nx := 4) (dc28 bs_x9_putFour (by decide +kernel)) rfl rfl (G_iflt (off := 42) (tg := 46) (nf := 7) (dc155 (x := 0) (y := 42) bs_x9_putFour (by decide +kernel) (by decide +kernel)) (by decide +kernel) rfl
    (G_vret rfl (dc177 bs_x9_putFour (by decide +kernel)))
    (G_ldAn (n := 0) (nx := 8) (dc42 bs_x9_putFour (by decide +kernel)) rfl rfl (G_getI (nx := 11) fl_9_147 (Or.inl rfl) (dc180 (x := 0) (y := 147) bs_x9_putFour (by decide +kernel) rfl) rfl (G_si (n := 400) (nx := 14) (dc17 (x := 1) (y := 144) bs_x9_putFour (by decide +kernel) (by decide +kernel)) siv_400 rfl (G_icmpge (off := 32) (tg := 46) (nf := 17) (dc162 (x := 0) (y := 32) bs_x9_putFour (by decide +kernel) (by decide +kernel)) (by decide +kernel) rfl
      (G_ldAn (n := 0) (nx := 18) (dc42 bs_x9_putFour (by decide +kernel)) rfl rfl (G_getRc (nx := 21) fl_9_40 rf_9_6 (dc180 (x := 0) (y := 40) bs_x9_putFour (by decide +kernel) rfl) rfl (G_ldAn (n := 0) (nx := 22) (dc42 bs_x9_putFour (by decide +kernel)) rfl rfl (G_getI (nx := 25) fl_9_147 (Or.inl rfl) (dc180 (x := 0) (y := 147) bs_x9_putFour (by decide +kernel) rfl) rfl (G_ldIn (n := 1) (nx := 26) (dc27 bs_x9_putFour (by decide +kernel)) rfl rfl (G_ldIn (n := 2) (nx := 27) (dc28 bs_x9_putFour (by decide +kernel)) rfl rfl (G_ishr (nx := 28) (dc122 bs_x9_putFour (by decide +kernel)) rfl (G_i2b (nx := 29) (dc145 bs_x9_putFour (by decide +kernel)) rfl (G_bast (nx := 30) ak_39 (by decide) (dc84 bs_x9_putFour (by decide +kernel)) rfl (G_ldAn (n := 0) (nx := 31) (dc42 bs_x9_putFour (by decide +kernel)) rfl rfl (G_dup (nx := 32) (dc89 bs_x9_putFour (by decide +kernel)) rfl (G_getI (nx := 35) fl_9_147 (Or.inl rfl) (dc180 (x := 0) (y := 147) bs_x9_putFour (by decide +kernel) rfl) rfl (G_ic (n := 1) (nx := 36) (dc4 bs_x9_putFour (by decide +kernel)) icv_1 rfl (G_iadd (nx := 37) (dc96 bs_x9_putFour (by decide +kernel)) rfl (G_putI (nx := 40) fp_9_147 rfl (dc181 (x := 0) (y := 147) bs_x9_putFour (by decide +kernel) rfl) rfl (G_inc (n := -8) (nx := 43) (by show 2 < 3; decide) (dc132 (x := 2) (y := 248) bs_x9_putFour (by decide +kernel) (by decide +kernel)) icv_m8 rfl (G_goto (off := -40) (nx := 3) (dc167 (x := 255) (y := 216) bs_x9_putFour (by decide +kernel) (by decide +kernel)) (by decide +kernel) (G_lbl (Gp_C <| Gp_I fun a1 => Gp_I fun a2 => Gp_E fun s r h => hK3 s a1 a2 r h)))))))))))))))))))
      (G_vret rfl (dc177 bs_x9_putFour (by decide +kernel)))))))))
    exact ht _ _ s r ((e_x9_putFour_b3 (x9_putFour_b3 n) s l1 l2).symm.trans h)

set_option maxRecDepth 100000 in
set_option maxHeartbeats 4000000 in
theorem h_x9_putFour : g_Ft M_x9_putFour yX9_putFour 2 (FW_x9_putFour x9_putFour) := by
  intro l w hw σ as hlen hwf hok ρ k r e
  unfold FW_x9_putFour at e
  obtain ⟨hh0, e⟩ := p_C_inv e
  obtain ⟨l1, hh1, e⟩ := p_I_inv e
  have e := p_E_inv e
  obtain ⟨q, e1, e2⟩ := Option.bind_eq_some_iff.mp e
  have has : as = [.inr (.inr (some (9, 0))), .inl l1] := g_as2 hlen hh0 hh1
  subst has
  have hGo : g_Go M_x9_putFour retV (me M_x9_putFour) 0 (g_loc [.inr (.inr (some (9, 0))), .inl l1] (ml M_x9_putFour)) [] σ q := by
    have ht : g_Gd M_x9_putFour retV (me M_x9_putFour) 0 (t_x9_putFour (x9_putFour_b3 FU)) := (G_bi (n := 24) (nx := 2) (dc16 (x := 24) bs_x9_putFour (by decide +kernel) (by decide +kernel)) biv_24 rfl (G_stIn (n := 2) (nx := 3) (by show 2 < 3; decide) (dc61 bs_x9_putFour (by decide +kernel)) rfl rfl (G_lbl (Gp_C <| Gp_I fun a1 => Gp_I fun a2 => Gp_E fun s r h => B_x9_putFour_b3 FU s a1 a2 r h))))
    exact ht _ _ σ q ((e_x9_putFour (x9_putFour_b3 FU) σ l1).symm.trans e1)
  exact g_meth (σ' := q) (v := none) (by decide) rfl hw hwf hok (Nat.le_of_ble_eq_true rfl) hGo (fun σ2 v2 h => retV_inv h) (by exact e2)

set_option maxRecDepth 100000 in
set_option maxHeartbeats 4000000 in
theorem h_x9_feed : g_Ft M_x9_feed yX9_feed 6 (FW_x9_feed x9_feed) := by
  intro l w hw σ as hlen hwf hok ρ k r e
  unfold FW_x9_feed at e
  obtain ⟨hh0, e⟩ := p_C_inv e
  obtain ⟨l1, hh1, e⟩ := p_I_inv e
  obtain ⟨l2, hh2, e⟩ := p_I_inv e
  obtain ⟨l3, hh3, e⟩ := p_I_inv e
  obtain ⟨l4, hh4, e⟩ := p_I_inv e
  obtain ⟨l5, hh5, e⟩ := p_I_inv e
  have e := p_E_inv e
  obtain ⟨q, e1, e2⟩ := Option.bind_eq_some_iff.mp e
  have has : as = [.inr (.inr (some (9, 0))), .inl l1, .inl l2, .inl l3, .inl l4, .inl l5] := g_as6 hlen hh0 hh1 hh2 hh3 hh4 hh5
  subst has
  have hGo : g_Go M_x9_feed retI (me M_x9_feed) 0 (g_loc [.inr (.inr (some (9, 0))), .inl l1, .inl l2, .inl l3, .inl l4, .inl l5] (ml M_x9_feed)) [] σ q := by
    have ht : g_Gd M_x9_feed retI (me M_x9_feed) 0 (t_x9_feed x9_putFour) := (G_ldAn (n := 0) (nx := 1) (dc42 bs_x9_feed (by decide +kernel)) rfl rfl (G_getI (nx := 4) fl_9_147 (Or.inl rfl) (dc180 (x := 0) (y := 147) bs_x9_feed (by decide +kernel) rfl) rfl (G_bi (n := 20) (nx := 6) (dc16 (x := 20) bs_x9_feed (by decide +kernel) (by decide +kernel)) biv_20 rfl (G_iadd (nx := 7) (dc96 bs_x9_feed (by decide +kernel)) rfl (G_si (n := 400) (nx := 10) (dc17 (x := 1) (y := 144) bs_x9_feed (by decide +kernel) (by decide +kernel)) siv_400 rfl (G_icmple (off := 5) (tg := 15) (nf := 13) (dc164 (x := 0) (y := 5) bs_x9_feed (by decide +kernel) (by decide +kernel)) (by decide +kernel) rfl
  (G_ic (n := -1) (nx := 14) (dc2 bs_x9_feed (by decide +kernel)) icv_m1 rfl (G_iret rfl (dc172 bs_x9_feed (by decide +kernel))))
  (G_ldAn (n := 0) (nx := 16) (dc42 bs_x9_feed (by decide +kernel)) rfl rfl (G_ldIn (n := 1) (nx := 17) (dc27 bs_x9_feed (by decide +kernel)) rfl rfl (G_callV (b0 := 0) (nx := 20) (T := TX9) (ci := 9) (g_Fn_of rfl h_x9_putFour) (cw_9_150) ⟨wd3_66, sel_GalleyRoom_putFour__I_V⟩ ⟨rfl, rfl⟩ ⟨by decide, by show 3 ≤ 21; decide⟩ (Nat.zero_le _) (rec_x9_putFour _) (dc182 (x := 0) (y := 150) bs_x9_feed (by decide +kernel) rfl) rfl (G_ldAn (n := 0) (nx := 21) (dc42 bs_x9_feed (by decide +kernel)) rfl rfl (G_ldIn (n := 2) (nx := 22) (dc28 bs_x9_feed (by decide +kernel)) rfl rfl (G_callV (b0 := 0) (nx := 25) (T := TX9) (ci := 9) (g_Fn_of rfl h_x9_putFour) (cw_9_150) ⟨wd3_66, sel_GalleyRoom_putFour__I_V⟩ ⟨rfl, rfl⟩ ⟨by decide, by show 3 ≤ 21; decide⟩ (Nat.zero_le _) (rec_x9_putFour _) (dc182 (x := 0) (y := 150) bs_x9_feed (by decide +kernel) rfl) rfl (G_ldAn (n := 0) (nx := 26) (dc42 bs_x9_feed (by decide +kernel)) rfl rfl (G_ldIn (n := 3) (nx := 27) (dc29 bs_x9_feed (by decide +kernel)) rfl rfl (G_callV (b0 := 0) (nx := 30) (T := TX9) (ci := 9) (g_Fn_of rfl h_x9_putFour) (cw_9_150) ⟨wd3_66, sel_GalleyRoom_putFour__I_V⟩ ⟨rfl, rfl⟩ ⟨by decide, by show 3 ≤ 21; decide⟩ (Nat.zero_le _) (rec_x9_putFour _) (dc182 (x := 0) (y := 150) bs_x9_feed (by decide +kernel) rfl) rfl (G_ldAn (n := 0) (nx := 31) (dc42 bs_x9_feed (by decide +kernel)) rfl rfl (G_ldI (nx := 33) (dc21 (x := 4) bs_x9_feed (by decide +kernel)) rfl (G_callV (b0 := 0) (nx := 36) (T := TX9) (ci := 9) (g_Fn_of rfl h_x9_putFour) (cw_9_150) ⟨wd3_66, sel_GalleyRoom_putFour__I_V⟩ ⟨rfl, rfl⟩ ⟨by decide, by show 3 ≤ 21; decide⟩ (Nat.zero_le _) (rec_x9_putFour _) (dc182 (x := 0) (y := 150) bs_x9_feed (by decide +kernel) rfl) rfl (G_ldAn (n := 0) (nx := 37) (dc42 bs_x9_feed (by decide +kernel)) rfl rfl (G_ldI (nx := 39) (dc21 (x := 5) bs_x9_feed (by decide +kernel)) rfl (G_callV (b0 := 0) (nx := 42) (T := TX9) (ci := 9) (g_Fn_of rfl h_x9_putFour) (cw_9_150) ⟨wd3_66, sel_GalleyRoom_putFour__I_V⟩ ⟨rfl, rfl⟩ ⟨by decide, by show 3 ≤ 21; decide⟩ (Nat.zero_le _) (rec_x9_putFour _) (dc182 (x := 0) (y := 150) bs_x9_feed (by decide +kernel) rfl) rfl (G_ldAn (n := 0) (nx := 43) (dc42 bs_x9_feed (by decide +kernel)) rfl rfl (G_getI (nx := 46) fl_9_147 (Or.inl rfl) (dc180 (x := 0) (y := 147) bs_x9_feed (by decide +kernel) rfl) rfl (G_iret rfl (dc172 bs_x9_feed (by decide +kernel))))))))))))))))))))))))))
    exact ht _ _ σ q ((e_x9_feed x9_putFour σ l1 l2 l3 l4 l5).symm.trans e1)
  exact g_meth (σ' := q.1) (v := some (.inl q.2)) (by decide) rfl hw hwf hok (Nat.le_of_ble_eq_true rfl) hGo (fun σ2 v2 h => retI_inv h) (by exact e2)

set_option maxRecDepth 100000 in
set_option maxHeartbeats 4000000 in
theorem h_x9_end : g_Ft M_x9_end yX9_end 2 (FW_x9_end x9_end) := by
  intro l w hw σ as hlen hwf hok ρ k r e
  unfold FW_x9_end at e
  obtain ⟨hh0, e⟩ := p_C_inv e
  obtain ⟨l1, hh1, e⟩ := p_I_inv e
  have e := p_E_inv e
  obtain ⟨q, e1, e2⟩ := Option.bind_eq_some_iff.mp e
  have has : as = [.inr (.inr (some (9, 0))), .inl l1] := g_as2 hlen hh0 hh1
  subst has
  have hGo : g_Go M_x9_end retI (me M_x9_end) 0 (g_loc [.inr (.inr (some (9, 0))), .inl l1] (ml M_x9_end)) [] σ q := by
    have ht : g_Gd M_x9_end retI (me M_x9_end) 0 (t_x9_end) := (G_ldIn (n := 1) (nx := 1) (dc27 bs_x9_end (by decide +kernel)) rfl rfl (G_iflt (off := 11) (tg := 12) (nf := 4) (dc155 (x := 0) (y := 11) bs_x9_end (by decide +kernel) (by decide +kernel)) (by decide +kernel) rfl
  (G_ic (n := -1) (nx := 13) (dc2 bs_x9_end (by decide +kernel)) icv_m1 rfl (G_iret rfl (dc172 bs_x9_end (by decide +kernel))))
  (G_ldIn (n := 1) (nx := 5) (dc27 bs_x9_end (by decide +kernel)) rfl rfl (G_ldAn (n := 0) (nx := 6) (dc42 bs_x9_end (by decide +kernel)) rfl rfl (G_getI (nx := 9) fl_9_147 (Or.inl rfl) (dc180 (x := 0) (y := 147) bs_x9_end (by decide +kernel) rfl) rfl (G_icmple (off := 5) (tg := 14) (nf := 12) (dc164 (x := 0) (y := 5) bs_x9_end (by decide +kernel) (by decide +kernel)) (by decide +kernel) rfl
    (G_ic (n := -1) (nx := 13) (dc2 bs_x9_end (by decide +kernel)) icv_m1 rfl (G_iret rfl (dc172 bs_x9_end (by decide +kernel))))
    (G_ldAn (n := 0) (nx := 15) (dc42 bs_x9_end (by decide +kernel)) rfl rfl (G_ldIn (n := 1) (nx := 16) (dc27 bs_x9_end (by decide +kernel)) rfl rfl (G_putI (nx := 19) fp_9_147 rfl (dc181 (x := 0) (y := 147) bs_x9_end (by decide +kernel) rfl) rfl (G_ldIn (n := 1) (nx := 20) (dc27 bs_x9_end (by decide +kernel)) rfl rfl (G_iret rfl (dc172 bs_x9_end (by decide +kernel)))))))))))))
    exact ht _ _ σ q ((e_x9_end  σ l1).symm.trans e1)
  exact g_meth (σ' := q.1) (v := some (.inl q.2)) (by decide) rfl hw hwf hok (Nat.le_of_ble_eq_true rfl) hGo (fun σ2 v2 h => retI_inv h) (by exact e2)

set_option maxRecDepth 100000 in
set_option maxHeartbeats 4000000 in
theorem h_x9_takeWordAt : g_Ft M_x9_takeWordAt yX9_takeWordAt 2 (FW_x9_takeWordAt x9_takeWordAt) := by
  intro l w hw σ as hlen hwf hok ρ k r e
  unfold FW_x9_takeWordAt at e
  obtain ⟨hh0, e⟩ := p_C_inv e
  obtain ⟨l1, hh1, e⟩ := p_I_inv e
  have e := p_E_inv e
  obtain ⟨q, e1, e2⟩ := Option.bind_eq_some_iff.mp e
  have has : as = [.inr (.inr (some (9, 0))), .inl l1] := g_as2 hlen hh0 hh1
  subst has
  have hGo : g_Go M_x9_takeWordAt retI (me M_x9_takeWordAt) 0 (g_loc [.inr (.inr (some (9, 0))), .inl l1] (ml M_x9_takeWordAt)) [] σ q := by
    have ht : g_Gd M_x9_takeWordAt retI (me M_x9_takeWordAt) 0 (t_x9_takeWordAt x9_canBeWord x1_addWord) := (G_ldIn (n := 1) (nx := 1) (dc27 bs_x9_takeWordAt (by decide +kernel)) rfl rfl (G_iflt (off := 34) (tg := 35) (nf := 4) (dc155 (x := 0) (y := 34) bs_x9_takeWordAt (by decide +kernel) (by decide +kernel)) (by decide +kernel) rfl
  (G_ic (n := 0) (nx := 36) (dc3 bs_x9_takeWordAt (by decide +kernel)) icv_0 rfl (G_zret rfl (dc172 bs_x9_takeWordAt (by decide +kernel))))
  (G_ldIn (n := 1) (nx := 5) (dc27 bs_x9_takeWordAt (by decide +kernel)) rfl rfl (G_ic (n := 3) (nx := 6) (dc6 bs_x9_takeWordAt (by decide +kernel)) icv_3 rfl (G_iadd (nx := 7) (dc96 bs_x9_takeWordAt (by decide +kernel)) rfl (G_ldAn (n := 0) (nx := 8) (dc42 bs_x9_takeWordAt (by decide +kernel)) rfl rfl (G_getI (nx := 11) fl_9_147 (Or.inl rfl) (dc180 (x := 0) (y := 147) bs_x9_takeWordAt (by decide +kernel) rfl) rfl (G_icmpgt (off := 24) (tg := 35) (nf := 14) (dc163 (x := 0) (y := 24) bs_x9_takeWordAt (by decide +kernel) (by decide +kernel)) (by decide +kernel) rfl
    (G_ic (n := 0) (nx := 36) (dc3 bs_x9_takeWordAt (by decide +kernel)) icv_0 rfl (G_zret rfl (dc172 bs_x9_takeWordAt (by decide +kernel))))
    (G_ldIn (n := 1) (nx := 15) (dc27 bs_x9_takeWordAt (by decide +kernel)) rfl rfl (G_ic (n := 3) (nx := 16) (dc6 bs_x9_takeWordAt (by decide +kernel)) icv_3 rfl (G_iadd (nx := 17) (dc96 bs_x9_takeWordAt (by decide +kernel)) rfl (G_si (n := 400) (nx := 20) (dc17 (x := 1) (y := 144) bs_x9_takeWordAt (by decide +kernel) (by decide +kernel)) siv_400 rfl (G_icmpgt (off := 15) (tg := 35) (nf := 23) (dc163 (x := 0) (y := 15) bs_x9_takeWordAt (by decide +kernel) (by decide +kernel)) (by decide +kernel) rfl
      (G_ic (n := 0) (nx := 36) (dc3 bs_x9_takeWordAt (by decide +kernel)) icv_0 rfl (G_zret rfl (dc172 bs_x9_takeWordAt (by decide +kernel))))
      (G_ldAn (n := 0) (nx := 24) (dc42 bs_x9_takeWordAt (by decide +kernel)) rfl rfl (G_getRc (nx := 27) fl_9_20 rf_9_1 (dc180 (x := 0) (y := 20) bs_x9_takeWordAt (by decide +kernel) rfl) rfl (G_getI (nx := 30) fl_9_88 (Or.inl rfl) (dc180 (x := 0) (y := 88) bs_x9_takeWordAt (by decide +kernel) rfl) rfl (G_bi (n := 12) (nx := 32) (dc16 (x := 12) bs_x9_takeWordAt (by decide +kernel) (by decide +kernel)) biv_12 rfl (G_icmplt (off := 5) (tg := 37) (nf := 35) (dc161 (x := 0) (y := 5) bs_x9_takeWordAt (by decide +kernel) (by decide +kernel)) (by decide +kernel) rfl
        (G_ldAn (n := 0) (nx := 38) (dc42 bs_x9_takeWordAt (by decide +kernel)) rfl rfl (G_getRc (nx := 41) fl_9_40 rf_9_6 (dc180 (x := 0) (y := 40) bs_x9_takeWordAt (by decide +kernel) rfl) rfl (G_ldIn (n := 1) (nx := 42) (dc27 bs_x9_takeWordAt (by decide +kernel)) rfl rfl (G_bald (nx := 43) ak_39 (dc51 bs_x9_takeWordAt (by decide +kernel)) rfl (G_si (n := 255) (nx := 46) (dc17 (x := 0) (y := 255) bs_x9_takeWordAt (by decide +kernel) (by decide +kernel)) siv_255 rfl (G_iand (nx := 47) (dc126 bs_x9_takeWordAt (by decide +kernel)) rfl (G_stIn (n := 2) (nx := 48) (by show 2 < 5; decide) (dc61 bs_x9_takeWordAt (by decide +kernel)) rfl rfl (G_ldAn (n := 0) (nx := 49) (dc42 bs_x9_takeWordAt (by decide +kernel)) rfl rfl (G_getRc (nx := 52) fl_9_40 rf_9_6 (dc180 (x := 0) (y := 40) bs_x9_takeWordAt (by decide +kernel) rfl) rfl (G_ldIn (n := 1) (nx := 53) (dc27 bs_x9_takeWordAt (by decide +kernel)) rfl rfl (G_ic (n := 1) (nx := 54) (dc4 bs_x9_takeWordAt (by decide +kernel)) icv_1 rfl (G_iadd (nx := 55) (dc96 bs_x9_takeWordAt (by decide +kernel)) rfl (G_bald (nx := 56) ak_39 (dc51 bs_x9_takeWordAt (by decide +kernel)) rfl (G_si (n := 255) (nx := 59) (dc17 (x := 0) (y := 255) bs_x9_takeWordAt (by decide +kernel) (by decide +kernel)) siv_255 rfl (G_iand (nx := 60) (dc126 bs_x9_takeWordAt (by decide +kernel)) rfl (G_stIn (n := 3) (nx := 61) (by show 3 < 5; decide) (dc62 bs_x9_takeWordAt (by decide +kernel)) rfl rfl (G_ldAn (n := 0) (nx := 62) (dc42 bs_x9_takeWordAt (by decide +kernel)) rfl rfl (G_getRc (nx := 65) fl_9_40 rf_9_6 (dc180 (x := 0) (y := 40) bs_x9_takeWordAt (by decide +kernel) rfl) rfl (G_ldIn (n := 1) (nx := 66) (dc27 bs_x9_takeWordAt (by decide +kernel)) rfl rfl (G_ic (n := 2) (nx := 67) (dc5 bs_x9_takeWordAt (by decide +kernel)) icv_2 rfl (G_iadd (nx := 68) (dc96 bs_x9_takeWordAt (by decide +kernel)) rfl (G_bald (nx := 69) ak_39 (dc51 bs_x9_takeWordAt (by decide +kernel)) rfl (G_si (n := 255) (nx := 72) (dc17 (x := 0) (y := 255) bs_x9_takeWordAt (by decide +kernel) (by decide +kernel)) siv_255 rfl (G_iand (nx := 73) (dc126 bs_x9_takeWordAt (by decide +kernel)) rfl (G_stI (nx := 75) (by show 4 < 5; decide) (dc54 (x := 4) bs_x9_takeWordAt (by decide +kernel)) rfl (G_ldIn (n := 2) (nx := 76) (dc28 bs_x9_takeWordAt (by decide +kernel)) rfl rfl (G_ldIn (n := 3) (nx := 77) (dc29 bs_x9_takeWordAt (by decide +kernel)) rfl rfl (G_ldI (nx := 79) (dc21 (x := 4) bs_x9_takeWordAt (by decide +kernel)) rfl (G_callS (b0 := 0) (nx := 82) (g_Fn_of rfl h_x9_canBeWord) (cw_9_80) wd2_182 rfl ⟨by decide, by show 3 ≤ 21; decide⟩ (Nat.zero_le _) (dc184 (x := 0) (y := 80) bs_x9_takeWordAt (by decide +kernel) rfl) rfl (G_ifne (off := 5) (tg := 87) (nf := 85) (dc154 (x := 0) (y := 5) bs_x9_takeWordAt (by decide +kernel) (by decide +kernel)) (by decide +kernel) rfl
          (G_ic (n := 0) (nx := 86) (dc3 bs_x9_takeWordAt (by decide +kernel)) icv_0 rfl (G_zret rfl (dc172 bs_x9_takeWordAt (by decide +kernel))))
          (G_ldAn (n := 0) (nx := 88) (dc42 bs_x9_takeWordAt (by decide +kernel)) rfl rfl (G_getRc (nx := 91) fl_9_20 rf_9_1 (dc180 (x := 0) (y := 20) bs_x9_takeWordAt (by decide +kernel) rfl) rfl (G_ldIn (n := 2) (nx := 92) (dc28 bs_x9_takeWordAt (by decide +kernel)) rfl rfl (G_ldIn (n := 3) (nx := 93) (dc29 bs_x9_takeWordAt (by decide +kernel)) rfl rfl (G_ldI (nx := 95) (dc21 (x := 4) bs_x9_takeWordAt (by decide +kernel)) rfl (G_callV (b0 := 0) (nx := 98) (T := TX1) (ci := 1) (g_Fn_of rfl h_x1_addWord) (cw_9_91) ⟨wd2_189, wd2_190⟩ ⟨rfl, rfl⟩ ⟨by decide, by show 4 ≤ 21; decide⟩ (Nat.zero_le _) (rec_x1_addWord _) (dc182 (x := 0) (y := 91) bs_x9_takeWordAt (by decide +kernel) rfl) rfl (G_ic (n := 1) (nx := 99) (dc4 bs_x9_takeWordAt (by decide +kernel)) icv_1 rfl (G_zret rfl (dc172 bs_x9_takeWordAt (by decide +kernel))))))))))))))))))))))))))))))))))))))))
        (G_ic (n := 0) (nx := 36) (dc3 bs_x9_takeWordAt (by decide +kernel)) icv_0 rfl (G_zret rfl (dc172 bs_x9_takeWordAt (by decide +kernel))))))))))))))))))))))
    exact ht _ _ σ q ((e_x9_takeWordAt x9_canBeWord x1_addWord σ l1).symm.trans e1)
  exact g_meth (σ' := q.1) (v := some (.inl q.2)) (by decide) rfl hw hwf hok (Nat.le_of_ble_eq_true rfl) hGo (fun σ2 v2 h => retI_inv h) (by exact e2)

set_option maxRecDepth 100000 in
set_option maxHeartbeats 4000000 in
theorem B_x9_row_b23 : ∀ (n : Nat) (s : Sg) (l1 : Int32) (l2 : Int32) (r : (Sg × Int32)), x9_row_b23 n s l1 l2 = some r → g_Go M_x9_row retI 0 23 [some (.inr (.inr (some (9, 0)))), some (.inl l1), some (.inl l2)] [] s r := by
  intro n
  induction n with
  | zero => intro s l1 l2 r h; cases h
  | succ n hK23 =>
    intro s l1 l2 r h
    have ht : g_Gd M_x9_row retI 0 23 (t_x9_row_b23 (x9_row_b23 n) x9_takeWordAt x9_answer) := (G_ldIn (n := 2) (nx := 24) (dc28 bs_x9_row (by decide +kernel)) rfl rfl (G_ldAn (n := 0) (nx := 25) (dc42 bs_x9_row (by decide +kernel)) rfl rfl (G_getI (nx := 28) fl_9_147 (Or.inl rfl) (dc180 (x := 0) (y := 147) bs_x9_row (by decide +kernel) rfl) rfl (G_icmpge (off := 33) (tg := 61) (nf := 31) (dc162 (x := 0) (y := 33) bs_x9_row (by decide +kernel) (by decide +kernel)) (by decide +kernel) rfl
    (G_ldAn (n := 0) (nx := 32) (dc42 bs_x9_row (by decide +kernel)) rfl rfl (G_ldIn (n := 2) (nx := 33) (dc28 bs_x9_row (by decide +kernel)) rfl rfl (G_callV (b0 := 0) (nx := 36) (T := TX9) (ci := 9) (g_Fn_of rfl h_x9_takeWordAt) (cw_9_157) ⟨wd3_78, sel_GalleyRoom_takeWordAt__I_Z⟩ ⟨rfl, rfl⟩ ⟨by decide, by show 5 ≤ 21; decide⟩ (Nat.zero_le _) (rec_x9_takeWordAt _) (dc182 (x := 0) (y := 157) bs_x9_row (by decide +kernel) rfl) rfl (G_ifeq (off := 9) (tg := 45) (nf := 39) (dc153 (x := 0) (y := 9) bs_x9_row (by decide +kernel) (by decide +kernel)) (by decide +kernel) rfl
      (G_ldAn (n := 0) (nx := 46) (dc42 bs_x9_row (by decide +kernel)) rfl rfl (G_dup (nx := 47) (dc89 bs_x9_row (by decide +kernel)) rfl (G_getI (nx := 50) fl_9_154 (Or.inl rfl) (dc180 (x := 0) (y := 154) bs_x9_row (by decide +kernel) rfl) rfl (G_ic (n := 1) (nx := 51) (dc4 bs_x9_row (by decide +kernel)) icv_1 rfl (G_iadd (nx := 52) (dc96 bs_x9_row (by decide +kernel)) rfl (G_putI (nx := 55) fp_9_154 rfl (dc181 (x := 0) (y := 154) bs_x9_row (by decide +kernel) rfl) rfl (G_inc (n := 3) (nx := 58) (by show 2 < 3; decide) (dc132 (x := 2) (y := 3) bs_x9_row (by decide +kernel) (by decide +kernel)) icv_3 rfl (G_goto (off := -35) (nx := 23) (dc167 (x := 255) (y := 221) bs_x9_row (by decide +kernel) (by decide +kernel)) (by decide +kernel) (G_lbl (Gp_C <| Gp_I fun a1 => Gp_I fun a2 => Gp_E fun s r h => hK23 s a1 a2 r h))))))))))
      (G_inc (n := 1) (nx := 42) (by show 1 < 3; decide) (dc132 (x := 1) (y := 1) bs_x9_row (by decide +kernel) (by decide +kernel)) icv_1 rfl (G_goto (off := 13) (nx := 55) (dc167 (x := 0) (y := 13) bs_x9_row (by decide +kernel) (by decide +kernel)) (by decide +kernel) (G_inc (n := 3) (nx := 58) (by show 2 < 3; decide) (dc132 (x := 2) (y := 3) bs_x9_row (by decide +kernel) (by decide +kernel)) icv_3 rfl (G_goto (off := -35) (nx := 23) (dc167 (x := 255) (y := 221) bs_x9_row (by decide +kernel) (by decide +kernel)) (by decide +kernel) (G_lbl (Gp_C <| Gp_I fun a1 => Gp_I fun a2 => Gp_E fun s r h => hK23 s a1 a2 r h))))))))))
    (G_ldAn (n := 0) (nx := 62) (dc42 bs_x9_row (by decide +kernel)) rfl rfl (G_ic (n := 0) (nx := 63) (dc3 bs_x9_row (by decide +kernel)) icv_0 rfl (G_putI (nx := 66) fp_9_147 rfl (dc181 (x := 0) (y := 147) bs_x9_row (by decide +kernel) rfl) rfl (G_ldAn (n := 0) (nx := 67) (dc42 bs_x9_row (by decide +kernel)) rfl rfl (G_getRc (nx := 70) fl_9_55 rf_9_8 (dc180 (x := 0) (y := 55) bs_x9_row (by decide +kernel) rfl) rfl (G_ic (n := 0) (nx := 71) (dc3 bs_x9_row (by decide +kernel)) icv_0 rfl (G_putI (nx := 74) fp_9_95 rfl (dc181 (x := 0) (y := 95) bs_x9_row (by decide +kernel) rfl) rfl (G_ldAn (n := 0) (nx := 75) (dc42 bs_x9_row (by decide +kernel)) rfl rfl (G_ldIn (n := 1) (nx := 76) (dc27 bs_x9_row (by decide +kernel)) rfl rfl (G_callV (b0 := 0) (nx := 79) (T := TX9) (ci := 9) (g_Fn_of rfl h_x9_answer) (cw_9_100) ⟨wd2_194, sel_GalleyRoom_answer__I_I⟩ ⟨rfl, rfl⟩ ⟨by decide, by show 2 ≤ 21; decide⟩ (Nat.zero_le _) (rec_x9_answer _) (dc182 (x := 0) (y := 100) bs_x9_row (by decide +kernel) rfl) rfl (G_iret rfl (dc172 bs_x9_row (by decide +kernel)))))))))))))))))
    exact ht _ _ s r ((e_x9_row_b23 (x9_row_b23 n) x9_takeWordAt x9_answer s l1 l2).symm.trans h)

set_option maxRecDepth 100000 in
set_option maxHeartbeats 4000000 in
theorem h_x9_row : g_Ft M_x9_row yX9_row 1 (FW_x9_row x9_row) := by
  intro l w hw σ as hlen hwf hok ρ k r e
  unfold FW_x9_row at e
  obtain ⟨hh0, e⟩ := p_C_inv e
  have e := p_E_inv e
  obtain ⟨q, e1, e2⟩ := Option.bind_eq_some_iff.mp e
  have has : as = [.inr (.inr (some (9, 0)))] := g_as1 hlen hh0
  subst has
  have hGo : g_Go M_x9_row retI (me M_x9_row) 0 (g_loc [.inr (.inr (some (9, 0)))] (ml M_x9_row)) [] σ q := by
    have ht : g_Gd M_x9_row retI (me M_x9_row) 0 (t_x9_row (x9_row_b23 FU) x9_refuse) := (G_ldAn (n := 0) (nx := 1) (dc42 bs_x9_row (by decide +kernel)) rfl rfl (G_getI (nx := 4) fl_9_147 (Or.inl rfl) (dc180 (x := 0) (y := 147) bs_x9_row (by decide +kernel) rfl) rfl (G_ifne (off := 10) (tg := 14) (nf := 7) (dc154 (x := 0) (y := 10) bs_x9_row (by decide +kernel) (by decide +kernel)) (by decide +kernel) rfl
  (G_ldAn (n := 0) (nx := 8) (dc42 bs_x9_row (by decide +kernel)) rfl rfl (G_bi (n := -6) (nx := 10) (dc16 (x := 250) bs_x9_row (by decide +kernel) (by decide +kernel)) biv_m6 rfl (G_callV (b0 := 0) (nx := 13) (T := TX9) (ci := 9) (g_Fn_of rfl h_x9_refuse) (cw_9_84) ⟨wd2_186, sel_GalleyRoom_refuse__I_I⟩ ⟨rfl, rfl⟩ ⟨by decide, by show 3 ≤ 21; decide⟩ (Nat.zero_le _) (rec_x9_refuse _) (dc182 (x := 0) (y := 84) bs_x9_row (by decide +kernel) rfl) rfl (G_iret rfl (dc172 bs_x9_row (by decide +kernel))))))
  (G_ic (n := 0) (nx := 15) (dc3 bs_x9_row (by decide +kernel)) icv_0 rfl (G_stIn (n := 1) (nx := 16) (by show 1 < 3; decide) (dc60 bs_x9_row (by decide +kernel)) rfl rfl (G_ldAn (n := 0) (nx := 17) (dc42 bs_x9_row (by decide +kernel)) rfl rfl (G_ic (n := 0) (nx := 18) (dc3 bs_x9_row (by decide +kernel)) icv_0 rfl (G_putI (nx := 21) fp_9_154 rfl (dc181 (x := 0) (y := 154) bs_x9_row (by decide +kernel) rfl) rfl (G_ic (n := 0) (nx := 22) (dc3 bs_x9_row (by decide +kernel)) icv_0 rfl (G_stIn (n := 2) (nx := 23) (by show 2 < 3; decide) (dc61 bs_x9_row (by decide +kernel)) rfl rfl (G_lbl (Gp_C <| Gp_I fun a1 => Gp_I fun a2 => Gp_E fun s r h => B_x9_row_b23 FU s a1 a2 r h))))))))))))
    exact ht _ _ σ q ((e_x9_row (x9_row_b23 FU) x9_refuse σ ).symm.trans e1)
  exact g_meth (σ' := q.1) (v := some (.inl q.2)) (by decide) rfl hw hwf hok (Nat.le_of_ble_eq_true rfl) hGo (fun σ2 v2 h => retI_inv h) (by exact e2)

set_option maxRecDepth 100000 in
set_option maxHeartbeats 4000000 in
theorem h_x9_turned : g_Ft M_x9_turned yX9_turned 1 (FW_x9_turned x9_turned) := by
  intro l w hw σ as hlen hwf hok ρ k r e
  unfold FW_x9_turned at e
  obtain ⟨hh0, e⟩ := p_C_inv e
  have e := p_E_inv e
  obtain ⟨q, e1, e2⟩ := Option.bind_eq_some_iff.mp e
  have has : as = [.inr (.inr (some (9, 0)))] := g_as1 hlen hh0
  subst has
  have hGo : g_Go M_x9_turned retI (me M_x9_turned) 0 (g_loc [.inr (.inr (some (9, 0)))] (ml M_x9_turned)) [] σ q := by
    have ht : g_Gd M_x9_turned retI (me M_x9_turned) 0 (t_x9_turned) := (G_ldAn (n := 0) (nx := 1) (dc42 bs_x9_turned (by decide +kernel)) rfl rfl (G_getI (nx := 4) fl_9_154 (Or.inl rfl) (dc180 (x := 0) (y := 154) bs_x9_turned (by decide +kernel) rfl) rfl (G_iret rfl (dc172 bs_x9_turned (by decide +kernel)))))
    exact ht _ _ σ q ((e_x9_turned  σ ).symm.trans e1)
  exact g_meth (σ' := q.1) (v := some (.inl q.2)) (by decide) rfl hw hwf hok (Nat.le_of_ble_eq_true rfl) hGo (fun σ2 v2 h => retI_inv h) (by exact e2)

set_option maxRecDepth 100000 in
set_option maxHeartbeats 4000000 in
theorem h_x9_fault : g_Ft M_x9_fault yX9_fault 1 (FW_x9_fault x9_fault) := by
  intro l w hw σ as hlen hwf hok ρ k r e
  unfold FW_x9_fault at e
  obtain ⟨hh0, e⟩ := p_C_inv e
  have e := p_E_inv e
  obtain ⟨q, e1, e2⟩ := Option.bind_eq_some_iff.mp e
  have has : as = [.inr (.inr (some (9, 0)))] := g_as1 hlen hh0
  subst has
  have hGo : g_Go M_x9_fault retI (me M_x9_fault) 0 (g_loc [.inr (.inr (some (9, 0)))] (ml M_x9_fault)) [] σ q := by
    have ht : g_Gd M_x9_fault retI (me M_x9_fault) 0 (t_x9_fault) := (G_ldAn (n := 0) (nx := 1) (dc42 bs_x9_fault (by decide +kernel)) rfl rfl (G_getRc (nx := 4) fl_9_47 rf_9_7 (dc180 (x := 0) (y := 47) bs_x9_fault (by decide +kernel) rfl) rfl (G_getI (nx := 7) fl_9_167 (Or.inl rfl) (dc180 (x := 0) (y := 167) bs_x9_fault (by decide +kernel) rfl) rfl (G_iret rfl (dc172 bs_x9_fault (by decide +kernel))))))
    exact ht _ _ σ q ((e_x9_fault  σ ).symm.trans e1)
  exact g_meth (σ' := q.1) (v := some (.inl q.2)) (by decide) rfl hw hwf hok (Nat.le_of_ble_eq_true rfl) hGo (fun σ2 v2 h => retI_inv h) (by exact e2)

set_option maxRecDepth 100000 in
set_option maxHeartbeats 4000000 in
theorem h_x9_stopped : g_Ft M_x9_stopped yX9_stopped 1 (FW_x9_stopped x9_stopped) := by
  intro l w hw σ as hlen hwf hok ρ k r e
  unfold FW_x9_stopped at e
  obtain ⟨hh0, e⟩ := p_C_inv e
  have e := p_E_inv e
  obtain ⟨q, e1, e2⟩ := Option.bind_eq_some_iff.mp e
  have has : as = [.inr (.inr (some (9, 0)))] := g_as1 hlen hh0
  subst has
  have hGo : g_Go M_x9_stopped retI (me M_x9_stopped) 0 (g_loc [.inr (.inr (some (9, 0)))] (ml M_x9_stopped)) [] σ q := by
    have ht : g_Gd M_x9_stopped retI (me M_x9_stopped) 0 (t_x9_stopped) := (G_ldAn (n := 0) (nx := 1) (dc42 bs_x9_stopped (by decide +kernel)) rfl rfl (G_getI (nx := 4) fl_9_76 (Or.inl rfl) (dc180 (x := 0) (y := 76) bs_x9_stopped (by decide +kernel) rfl) rfl (G_iret rfl (dc172 bs_x9_stopped (by decide +kernel)))))
    exact ht _ _ σ q ((e_x9_stopped  σ ).symm.trans e1)
  exact g_meth (σ' := q.1) (v := some (.inl q.2)) (by decide) rfl hw hwf hok (Nat.le_of_ble_eq_true rfl) hGo (fun σ2 v2 h => retI_inv h) (by exact e2)

set_option maxRecDepth 100000 in
set_option maxHeartbeats 4000000 in
theorem h_x9_force : g_Ft M_x9_force yX9_force 2 (FW_x9_force x9_force) := by
  intro l w hw σ as hlen hwf hok ρ k r e
  unfold FW_x9_force at e
  obtain ⟨hh0, e⟩ := p_C_inv e
  obtain ⟨l1, hh1, e⟩ := p_I_inv e
  have e := p_E_inv e
  obtain ⟨q, e1, e2⟩ := Option.bind_eq_some_iff.mp e
  have has : as = [.inr (.inr (some (9, 0))), .inl l1] := g_as2 hlen hh0 hh1
  subst has
  have hGo : g_Go M_x9_force retI (me M_x9_force) 0 (g_loc [.inr (.inr (some (9, 0))), .inl l1] (ml M_x9_force)) [] σ q := by
    have ht : g_Gd M_x9_force retI (me M_x9_force) 0 (t_x9_force x1_canForce x9_refuse x9_answer) := (G_ldAn (n := 0) (nx := 1) (dc42 bs_x9_force (by decide +kernel)) rfl rfl (G_getRc (nx := 4) fl_9_20 rf_9_1 (dc180 (x := 0) (y := 20) bs_x9_force (by decide +kernel) rfl) rfl (G_ldIn (n := 1) (nx := 5) (dc27 bs_x9_force (by decide +kernel)) rfl rfl (G_callV (b0 := 0) (nx := 8) (T := TX1) (ci := 1) (g_Fn_of rfl h_x1_canForce) (cw_9_203) ⟨wd4_90, wd4_91⟩ ⟨rfl, rfl⟩ ⟨by decide, by show 2 ≤ 21; decide⟩ (Nat.zero_le _) (rec_x1_canForce _) (dc182 (x := 0) (y := 203) bs_x9_force (by decide +kernel) rfl) rfl (G_ifne (off := 10) (tg := 18) (nf := 11) (dc154 (x := 0) (y := 10) bs_x9_force (by decide +kernel) (by decide +kernel)) (by decide +kernel) rfl
  (G_ldAn (n := 0) (nx := 12) (dc42 bs_x9_force (by decide +kernel)) rfl rfl (G_bi (n := -2) (nx := 14) (dc16 (x := 254) bs_x9_force (by decide +kernel) (by decide +kernel)) biv_m2 rfl (G_callV (b0 := 0) (nx := 17) (T := TX9) (ci := 9) (g_Fn_of rfl h_x9_refuse) (cw_9_84) ⟨wd2_186, sel_GalleyRoom_refuse__I_I⟩ ⟨rfl, rfl⟩ ⟨by decide, by show 3 ≤ 21; decide⟩ (Nat.zero_le _) (rec_x9_refuse _) (dc182 (x := 0) (y := 84) bs_x9_force (by decide +kernel) rfl) rfl (G_iret rfl (dc172 bs_x9_force (by decide +kernel))))))
  (G_ldAn (n := 0) (nx := 19) (dc42 bs_x9_force (by decide +kernel)) rfl rfl (G_getRc (nx := 22) fl_9_20 rf_9_1 (dc180 (x := 0) (y := 20) bs_x9_force (by decide +kernel) rfl) rfl (G_getI (nx := 25) fl_9_206 (Or.inl rfl) (dc180 (x := 0) (y := 206) bs_x9_force (by decide +kernel) rfl) rfl (G_stIn (n := 2) (nx := 26) (by show 2 < 3; decide) (dc61 bs_x9_force (by decide +kernel)) rfl rfl (G_ldAn (n := 0) (nx := 27) (dc42 bs_x9_force (by decide +kernel)) rfl rfl (G_getRc (nx := 30) fl_9_20 rf_9_1 (dc180 (x := 0) (y := 20) bs_x9_force (by decide +kernel) rfl) rfl (G_ldIn (n := 1) (nx := 31) (dc27 bs_x9_force (by decide +kernel)) rfl rfl (G_putI (nx := 34) fp_9_206 rfl (dc181 (x := 0) (y := 206) bs_x9_force (by decide +kernel) rfl) rfl (G_ldAn (n := 0) (nx := 35) (dc42 bs_x9_force (by decide +kernel)) rfl rfl (G_ldIn (n := 2) (nx := 36) (dc28 bs_x9_force (by decide +kernel)) rfl rfl (G_callV (b0 := 0) (nx := 39) (T := TX9) (ci := 9) (g_Fn_of rfl h_x9_answer) (cw_9_100) ⟨wd2_194, sel_GalleyRoom_answer__I_I⟩ ⟨rfl, rfl⟩ ⟨by decide, by show 2 ≤ 21; decide⟩ (Nat.zero_le _) (rec_x9_answer _) (dc182 (x := 0) (y := 100) bs_x9_force (by decide +kernel) rfl) rfl (G_iret rfl (dc172 bs_x9_force (by decide +kernel)))))))))))))))))))
    exact ht _ _ σ q ((e_x9_force x1_canForce x9_refuse x9_answer σ l1).symm.trans e1)
  exact g_meth (σ' := q.1) (v := some (.inl q.2)) (by decide) rfl hw hwf hok (Nat.le_of_ble_eq_true rfl) hGo (fun σ2 v2 h => retI_inv h) (by exact e2)

set_option maxRecDepth 100000 in
set_option maxHeartbeats 4000000 in
theorem h_x9_stop : g_Ft M_x9_stop yX9_stop 2 (FW_x9_stop x9_stop) := by
  intro l w hw σ as hlen hwf hok ρ k r e
  unfold FW_x9_stop at e
  obtain ⟨hh0, e⟩ := p_C_inv e
  obtain ⟨l1, hh1, e⟩ := p_I_inv e
  have e := p_E_inv e
  obtain ⟨q, e1, e2⟩ := Option.bind_eq_some_iff.mp e
  have has : as = [.inr (.inr (some (9, 0))), .inl l1] := g_as2 hlen hh0 hh1
  subst has
  have hGo : g_Go M_x9_stop retI (me M_x9_stop) 0 (g_loc [.inr (.inr (some (9, 0))), .inl l1] (ml M_x9_stop)) [] σ q := by
    have ht : g_Gd M_x9_stop retI (me M_x9_stop) 0 (t_x9_stop x0_attempt x9_refuse x1_endsAfter x9_answer) := (G_ldAn (n := 0) (nx := 1) (dc42 bs_x9_stop (by decide +kernel)) rfl rfl (G_getRc (nx := 4) fl_9_10 rf_9_0 (dc180 (x := 0) (y := 10) bs_x9_stop (by decide +kernel) rfl) rfl (G_ic (n := 0) (nx := 5) (dc3 bs_x9_stop (by decide +kernel)) icv_0 rfl (G_ldIn (n := 1) (nx := 6) (dc27 bs_x9_stop (by decide +kernel)) rfl rfl (G_ic (n := 0) (nx := 7) (dc3 bs_x9_stop (by decide +kernel)) icv_0 rfl (G_callV (b0 := 0) (nx := 10) (T := TX0) (ci := 0) (g_Fn_of rfl h_x0_attempt) (cw_9_209) ⟨wd4_53, wd4_54⟩ ⟨rfl, rfl⟩ ⟨by decide, by show 5 ≤ 21; decide⟩ (Nat.zero_le _) (rec_x0_attempt _) (dc182 (x := 0) (y := 209) bs_x9_stop (by decide +kernel) rfl) rfl (G_stIn (n := 2) (nx := 11) (by show 2 < 3; decide) (dc61 bs_x9_stop (by decide +kernel)) rfl rfl (G_ldIn (n := 2) (nx := 12) (dc28 bs_x9_stop (by decide +kernel)) rfl rfl (G_ifeq (off := 11) (tg := 23) (nf := 15) (dc153 (x := 0) (y := 11) bs_x9_stop (by decide +kernel) (by decide +kernel)) (by decide +kernel) rfl
  (G_ldAn (n := 0) (nx := 24) (dc42 bs_x9_stop (by decide +kernel)) rfl rfl (G_ldAn (n := 0) (nx := 25) (dc42 bs_x9_stop (by decide +kernel)) rfl rfl (G_getRc (nx := 28) fl_9_20 rf_9_1 (dc180 (x := 0) (y := 20) bs_x9_stop (by decide +kernel) rfl) rfl (G_ldIn (n := 1) (nx := 29) (dc27 bs_x9_stop (by decide +kernel)) rfl rfl (G_callV (b0 := 0) (nx := 32) (T := TX1) (ci := 1) (g_Fn_of rfl h_x1_endsAfter) (cw_9_116) ⟨wd2_205, wd2_206⟩ ⟨rfl, rfl⟩ ⟨by decide, by show 2 ≤ 21; decide⟩ (Nat.zero_le _) (rec_x1_endsAfter _) (dc182 (x := 0) (y := 116) bs_x9_stop (by decide +kernel) rfl) rfl (G_ifeq (off := 7) (tg := 39) (nf := 35) (dc153 (x := 0) (y := 7) bs_x9_stop (by decide +kernel) (by decide +kernel)) (by decide +kernel) rfl
    (G_ic (n := 0) (nx := 40) (dc3 bs_x9_stop (by decide +kernel)) icv_0 rfl (G_callV (b0 := 0) (nx := 43) (T := TX9) (ci := 9) (g_Fn_of rfl h_x9_answer) (cw_9_100) ⟨wd2_194, sel_GalleyRoom_answer__I_I⟩ ⟨rfl, rfl⟩ ⟨by decide, by show 2 ≤ 21; decide⟩ (Nat.zero_le _) (rec_x9_answer _) (dc182 (x := 0) (y := 100) bs_x9_stop (by decide +kernel) rfl) rfl (G_iret rfl (dc172 bs_x9_stop (by decide +kernel)))))
    (G_ic (n := 1) (nx := 36) (dc4 bs_x9_stop (by decide +kernel)) icv_1 rfl (G_goto (off := 4) (nx := 40) (dc167 (x := 0) (y := 4) bs_x9_stop (by decide +kernel) (by decide +kernel)) (by decide +kernel) (G_callV (b0 := 0) (nx := 43) (T := TX9) (ci := 9) (g_Fn_of rfl h_x9_answer) (cw_9_100) ⟨wd2_194, sel_GalleyRoom_answer__I_I⟩ ⟨rfl, rfl⟩ ⟨by decide, by show 2 ≤ 21; decide⟩ (Nat.zero_le _) (rec_x9_answer _) (dc182 (x := 0) (y := 100) bs_x9_stop (by decide +kernel) rfl) rfl (G_iret rfl (dc172 bs_x9_stop (by decide +kernel))))))))))))
  (G_ldAn (n := 0) (nx := 16) (dc42 bs_x9_stop (by decide +kernel)) rfl rfl (G_ldIn (n := 2) (nx := 17) (dc28 bs_x9_stop (by decide +kernel)) rfl rfl (G_callV (b0 := 0) (nx := 20) (T := TX9) (ci := 9) (g_Fn_of rfl h_x9_refuse) (cw_9_84) ⟨wd2_186, sel_GalleyRoom_refuse__I_I⟩ ⟨rfl, rfl⟩ ⟨by decide, by show 3 ≤ 21; decide⟩ (Nat.zero_le _) (rec_x9_refuse _) (dc182 (x := 0) (y := 84) bs_x9_stop (by decide +kernel) rfl) rfl (G_goto (off := 23) (nx := 43) (dc167 (x := 0) (y := 23) bs_x9_stop (by decide +kernel) (by decide +kernel)) (by decide +kernel) (G_iret rfl (dc172 bs_x9_stop (by decide +kernel))))))))))))))))
    exact ht _ _ σ q ((e_x9_stop x0_attempt x9_refuse x1_endsAfter x9_answer σ l1).symm.trans e1)
  exact g_meth (σ' := q.1) (v := some (.inl q.2)) (by decide) rfl hw hwf hok (Nat.le_of_ble_eq_true rfl) hGo (fun σ2 v2 h => retI_inv h) (by exact e2)

set_option maxRecDepth 100000 in
set_option maxHeartbeats 4000000 in
theorem h_x9_split : g_Ft M_x9_split yX9_split 2 (FW_x9_split x9_split) := by
  intro l w hw σ as hlen hwf hok ρ k r e
  unfold FW_x9_split at e
  obtain ⟨hh0, e⟩ := p_C_inv e
  obtain ⟨l1, hh1, e⟩ := p_I_inv e
  have e := p_E_inv e
  obtain ⟨q, e1, e2⟩ := Option.bind_eq_some_iff.mp e
  have has : as = [.inr (.inr (some (9, 0))), .inl l1] := g_as2 hlen hh0 hh1
  subst has
  have hGo : g_Go M_x9_split retI (me M_x9_split) 0 (g_loc [.inr (.inr (some (9, 0))), .inl l1] (ml M_x9_split)) [] σ q := by
    have ht : g_Gd M_x9_split retI (me M_x9_split) 0 (t_x9_split x0_attempt x9_refuse x1_isSplit x9_answer) := (G_ldAn (n := 0) (nx := 1) (dc42 bs_x9_split (by decide +kernel)) rfl rfl (G_getRc (nx := 4) fl_9_10 rf_9_0 (dc180 (x := 0) (y := 10) bs_x9_split (by decide +kernel) rfl) rfl (G_ic (n := 1) (nx := 5) (dc4 bs_x9_split (by decide +kernel)) icv_1 rfl (G_ldIn (n := 1) (nx := 6) (dc27 bs_x9_split (by decide +kernel)) rfl rfl (G_ic (n := 0) (nx := 7) (dc3 bs_x9_split (by decide +kernel)) icv_0 rfl (G_callV (b0 := 0) (nx := 10) (T := TX0) (ci := 0) (g_Fn_of rfl h_x0_attempt) (cw_9_209) ⟨wd4_53, wd4_54⟩ ⟨rfl, rfl⟩ ⟨by decide, by show 5 ≤ 21; decide⟩ (Nat.zero_le _) (rec_x0_attempt _) (dc182 (x := 0) (y := 209) bs_x9_split (by decide +kernel) rfl) rfl (G_stIn (n := 2) (nx := 11) (by show 2 < 3; decide) (dc61 bs_x9_split (by decide +kernel)) rfl rfl (G_ldIn (n := 2) (nx := 12) (dc28 bs_x9_split (by decide +kernel)) rfl rfl (G_ifeq (off := 11) (tg := 23) (nf := 15) (dc153 (x := 0) (y := 11) bs_x9_split (by decide +kernel) (by decide +kernel)) (by decide +kernel) rfl
  (G_ldAn (n := 0) (nx := 24) (dc42 bs_x9_split (by decide +kernel)) rfl rfl (G_ldAn (n := 0) (nx := 25) (dc42 bs_x9_split (by decide +kernel)) rfl rfl (G_getRc (nx := 28) fl_9_20 rf_9_1 (dc180 (x := 0) (y := 20) bs_x9_split (by decide +kernel) rfl) rfl (G_ldIn (n := 1) (nx := 29) (dc27 bs_x9_split (by decide +kernel)) rfl rfl (G_callV (b0 := 0) (nx := 32) (T := TX1) (ci := 1) (g_Fn_of rfl h_x1_isSplit) (cw_9_119) ⟨wd2_210, wd2_211⟩ ⟨rfl, rfl⟩ ⟨by decide, by show 2 ≤ 21; decide⟩ (Nat.zero_le _) (rec_x1_isSplit _) (dc182 (x := 0) (y := 119) bs_x9_split (by decide +kernel) rfl) rfl (G_ifeq (off := 7) (tg := 39) (nf := 35) (dc153 (x := 0) (y := 7) bs_x9_split (by decide +kernel) (by decide +kernel)) (by decide +kernel) rfl
    (G_ic (n := 0) (nx := 40) (dc3 bs_x9_split (by decide +kernel)) icv_0 rfl (G_callV (b0 := 0) (nx := 43) (T := TX9) (ci := 9) (g_Fn_of rfl h_x9_answer) (cw_9_100) ⟨wd2_194, sel_GalleyRoom_answer__I_I⟩ ⟨rfl, rfl⟩ ⟨by decide, by show 2 ≤ 21; decide⟩ (Nat.zero_le _) (rec_x9_answer _) (dc182 (x := 0) (y := 100) bs_x9_split (by decide +kernel) rfl) rfl (G_iret rfl (dc172 bs_x9_split (by decide +kernel)))))
    (G_ic (n := 1) (nx := 36) (dc4 bs_x9_split (by decide +kernel)) icv_1 rfl (G_goto (off := 4) (nx := 40) (dc167 (x := 0) (y := 4) bs_x9_split (by decide +kernel) (by decide +kernel)) (by decide +kernel) (G_callV (b0 := 0) (nx := 43) (T := TX9) (ci := 9) (g_Fn_of rfl h_x9_answer) (cw_9_100) ⟨wd2_194, sel_GalleyRoom_answer__I_I⟩ ⟨rfl, rfl⟩ ⟨by decide, by show 2 ≤ 21; decide⟩ (Nat.zero_le _) (rec_x9_answer _) (dc182 (x := 0) (y := 100) bs_x9_split (by decide +kernel) rfl) rfl (G_iret rfl (dc172 bs_x9_split (by decide +kernel))))))))))))
  (G_ldAn (n := 0) (nx := 16) (dc42 bs_x9_split (by decide +kernel)) rfl rfl (G_ldIn (n := 2) (nx := 17) (dc28 bs_x9_split (by decide +kernel)) rfl rfl (G_callV (b0 := 0) (nx := 20) (T := TX9) (ci := 9) (g_Fn_of rfl h_x9_refuse) (cw_9_84) ⟨wd2_186, sel_GalleyRoom_refuse__I_I⟩ ⟨rfl, rfl⟩ ⟨by decide, by show 3 ≤ 21; decide⟩ (Nat.zero_le _) (rec_x9_refuse _) (dc182 (x := 0) (y := 84) bs_x9_split (by decide +kernel) rfl) rfl (G_goto (off := 23) (nx := 43) (dc167 (x := 0) (y := 23) bs_x9_split (by decide +kernel) (by decide +kernel)) (by decide +kernel) (G_iret rfl (dc172 bs_x9_split (by decide +kernel))))))))))))))))
    exact ht _ _ σ q ((e_x9_split x0_attempt x9_refuse x1_isSplit x9_answer σ l1).symm.trans e1)
  exact g_meth (σ' := q.1) (v := some (.inl q.2)) (by decide) rfl hw hwf hok (Nat.le_of_ble_eq_true rfl) hGo (fun σ2 v2 h => retI_inv h) (by exact e2)

set_option maxRecDepth 100000 in
set_option maxHeartbeats 4000000 in
theorem h_x9_swell : g_Ft M_x9_swell yX9_swell 3 (FW_x9_swell x9_swell) := by
  intro l w hw σ as hlen hwf hok ρ k r e
  unfold FW_x9_swell at e
  obtain ⟨hh0, e⟩ := p_C_inv e
  obtain ⟨l1, hh1, e⟩ := p_I_inv e
  obtain ⟨l2, hh2, e⟩ := p_I_inv e
  have e := p_E_inv e
  obtain ⟨q, e1, e2⟩ := Option.bind_eq_some_iff.mp e
  have has : as = [.inr (.inr (some (9, 0))), .inl l1, .inl l2] := g_as3 hlen hh0 hh1 hh2
  subst has
  have hGo : g_Go M_x9_swell retI (me M_x9_swell) 0 (g_loc [.inr (.inr (some (9, 0))), .inl l1, .inl l2] (ml M_x9_swell)) [] σ q := by
    have ht : g_Gd M_x9_swell retI (me M_x9_swell) 0 (t_x9_swell x1_wideOf x0_attempt x9_refuse x9_answer) := (G_ldAn (n := 0) (nx := 1) (dc42 bs_x9_swell (by decide +kernel)) rfl rfl (G_getRc (nx := 4) fl_9_20 rf_9_1 (dc180 (x := 0) (y := 20) bs_x9_swell (by decide +kernel) rfl) rfl (G_ldIn (n := 1) (nx := 5) (dc27 bs_x9_swell (by decide +kernel)) rfl rfl (G_callV (b0 := 0) (nx := 8) (T := TX1) (ci := 1) (g_Fn_of rfl h_x1_wideOf) (cw_9_213) ⟨wd4_41, wd4_42⟩ ⟨rfl, rfl⟩ ⟨by decide, by show 2 ≤ 21; decide⟩ (Nat.zero_le _) (rec_x1_wideOf _) (dc182 (x := 0) (y := 213) bs_x9_swell (by decide +kernel) rfl) rfl (G_stIn (n := 3) (nx := 9) (by show 3 < 5; decide) (dc62 bs_x9_swell (by decide +kernel)) rfl rfl (G_ldAn (n := 0) (nx := 10) (dc42 bs_x9_swell (by decide +kernel)) rfl rfl (G_getRc (nx := 13) fl_9_10 rf_9_0 (dc180 (x := 0) (y := 10) bs_x9_swell (by decide +kernel) rfl) rfl (G_ic (n := 2) (nx := 14) (dc5 bs_x9_swell (by decide +kernel)) icv_2 rfl (G_ldIn (n := 1) (nx := 15) (dc27 bs_x9_swell (by decide +kernel)) rfl rfl (G_ldIn (n := 2) (nx := 16) (dc28 bs_x9_swell (by decide +kernel)) rfl rfl (G_callV (b0 := 0) (nx := 19) (T := TX0) (ci := 0) (g_Fn_of rfl h_x0_attempt) (cw_9_209) ⟨wd4_53, wd4_54⟩ ⟨rfl, rfl⟩ ⟨by decide, by show 5 ≤ 21; decide⟩ (Nat.zero_le _) (rec_x0_attempt _) (dc182 (x := 0) (y := 209) bs_x9_swell (by decide +kernel) rfl) rfl (G_stI (nx := 21) (by show 4 < 5; decide) (dc54 (x := 4) bs_x9_swell (by decide +kernel)) rfl (G_ldI (nx := 23) (dc21 (x := 4) bs_x9_swell (by decide +kernel)) rfl (G_ifeq (off := 12) (tg := 35) (nf := 26) (dc153 (x := 0) (y := 12) bs_x9_swell (by decide +kernel) (by decide +kernel)) (by decide +kernel) rfl
  (G_ldAn (n := 0) (nx := 36) (dc42 bs_x9_swell (by decide +kernel)) rfl rfl (G_ldIn (n := 3) (nx := 37) (dc29 bs_x9_swell (by decide +kernel)) rfl rfl (G_callV (b0 := 0) (nx := 40) (T := TX9) (ci := 9) (g_Fn_of rfl h_x9_answer) (cw_9_100) ⟨wd2_194, sel_GalleyRoom_answer__I_I⟩ ⟨rfl, rfl⟩ ⟨by decide, by show 2 ≤ 21; decide⟩ (Nat.zero_le _) (rec_x9_answer _) (dc182 (x := 0) (y := 100) bs_x9_swell (by decide +kernel) rfl) rfl (G_iret rfl (dc172 bs_x9_swell (by decide +kernel))))))
  (G_ldAn (n := 0) (nx := 27) (dc42 bs_x9_swell (by decide +kernel)) rfl rfl (G_ldI (nx := 29) (dc21 (x := 4) bs_x9_swell (by decide +kernel)) rfl (G_callV (b0 := 0) (nx := 32) (T := TX9) (ci := 9) (g_Fn_of rfl h_x9_refuse) (cw_9_84) ⟨wd2_186, sel_GalleyRoom_refuse__I_I⟩ ⟨rfl, rfl⟩ ⟨by decide, by show 3 ≤ 21; decide⟩ (Nat.zero_le _) (rec_x9_refuse _) (dc182 (x := 0) (y := 84) bs_x9_swell (by decide +kernel) rfl) rfl (G_goto (off := 8) (nx := 40) (dc167 (x := 0) (y := 8) bs_x9_swell (by decide +kernel) (by decide +kernel)) (by decide +kernel) (G_iret rfl (dc172 bs_x9_swell (by decide +kernel)))))))))))))))))))))
    exact ht _ _ σ q ((e_x9_swell x1_wideOf x0_attempt x9_refuse x9_answer σ l1 l2).symm.trans e1)
  exact g_meth (σ' := q.1) (v := some (.inl q.2)) (by decide) rfl hw hwf hok (Nat.le_of_ble_eq_true rfl) hGo (fun σ2 v2 h => retI_inv h) (by exact e2)

set_option maxRecDepth 100000 in
set_option maxHeartbeats 4000000 in
theorem h_x9_pass : g_Ft M_x9_pass yX9_pass 1 (FW_x9_pass x9_pass) := by
  intro l w hw σ as hlen hwf hok ρ k r e
  unfold FW_x9_pass at e
  obtain ⟨hh0, e⟩ := p_C_inv e
  have e := p_E_inv e
  obtain ⟨q, e1, e2⟩ := Option.bind_eq_some_iff.mp e
  have has : as = [.inr (.inr (some (9, 0)))] := g_as1 hlen hh0
  subst has
  have hGo : g_Go M_x9_pass retI (me M_x9_pass) 0 (g_loc [.inr (.inr (some (9, 0)))] (ml M_x9_pass)) [] σ q := by
    have ht : g_Gd M_x9_pass retI (me M_x9_pass) 0 (t_x9_pass x7_howManyFit x0_attempt x9_refuse x9_answer) := (G_ldAn (n := 0) (nx := 1) (dc42 bs_x9_pass (by decide +kernel)) rfl rfl (G_getRc (nx := 4) fl_9_60 rf_9_9 (dc180 (x := 0) (y := 60) bs_x9_pass (by decide +kernel) rfl) rfl (G_ldAn (n := 0) (nx := 5) (dc42 bs_x9_pass (by decide +kernel)) rfl rfl (G_getRc (nx := 8) fl_9_20 rf_9_1 (dc180 (x := 0) (y := 20) bs_x9_pass (by decide +kernel) rfl) rfl (G_callV (b0 := 0) (nx := 11) (T := TX7) (ci := 7) (g_Fn_of rfl h_x7_howManyFit) (cw_9_216) ⟨wd4_112, wd4_113⟩ ⟨rfl, rfl⟩ ⟨by decide, by show 2 ≤ 21; decide⟩ (Nat.zero_le _) (rec_x7_howManyFit _) (dc182 (x := 0) (y := 216) bs_x9_pass (by decide +kernel) rfl) rfl (G_stIn (n := 1) (nx := 12) (by show 1 < 3; decide) (dc60 bs_x9_pass (by decide +kernel)) rfl rfl (G_ldAn (n := 0) (nx := 13) (dc42 bs_x9_pass (by decide +kernel)) rfl rfl (G_getRc (nx := 16) fl_9_10 rf_9_0 (dc180 (x := 0) (y := 10) bs_x9_pass (by decide +kernel) rfl) rfl (G_ic (n := 3) (nx := 17) (dc6 bs_x9_pass (by decide +kernel)) icv_3 rfl (G_ic (n := 0) (nx := 18) (dc3 bs_x9_pass (by decide +kernel)) icv_0 rfl (G_ic (n := 0) (nx := 19) (dc3 bs_x9_pass (by decide +kernel)) icv_0 rfl (G_callV (b0 := 0) (nx := 22) (T := TX0) (ci := 0) (g_Fn_of rfl h_x0_attempt) (cw_9_209) ⟨wd4_53, wd4_54⟩ ⟨rfl, rfl⟩ ⟨by decide, by show 5 ≤ 21; decide⟩ (Nat.zero_le _) (rec_x0_attempt _) (dc182 (x := 0) (y := 209) bs_x9_pass (by decide +kernel) rfl) rfl (G_stIn (n := 2) (nx := 23) (by show 2 < 3; decide) (dc61 bs_x9_pass (by decide +kernel)) rfl rfl (G_ldIn (n := 2) (nx := 24) (dc28 bs_x9_pass (by decide +kernel)) rfl rfl (G_ifeq (off := 11) (tg := 35) (nf := 27) (dc153 (x := 0) (y := 11) bs_x9_pass (by decide +kernel) (by decide +kernel)) (by decide +kernel) rfl
  (G_ldAn (n := 0) (nx := 36) (dc42 bs_x9_pass (by decide +kernel)) rfl rfl (G_ldIn (n := 1) (nx := 37) (dc27 bs_x9_pass (by decide +kernel)) rfl rfl (G_callV (b0 := 0) (nx := 40) (T := TX9) (ci := 9) (g_Fn_of rfl h_x9_answer) (cw_9_100) ⟨wd2_194, sel_GalleyRoom_answer__I_I⟩ ⟨rfl, rfl⟩ ⟨by decide, by show 2 ≤ 21; decide⟩ (Nat.zero_le _) (rec_x9_answer _) (dc182 (x := 0) (y := 100) bs_x9_pass (by decide +kernel) rfl) rfl (G_iret rfl (dc172 bs_x9_pass (by decide +kernel))))))
  (G_ldAn (n := 0) (nx := 28) (dc42 bs_x9_pass (by decide +kernel)) rfl rfl (G_ldIn (n := 2) (nx := 29) (dc28 bs_x9_pass (by decide +kernel)) rfl rfl (G_callV (b0 := 0) (nx := 32) (T := TX9) (ci := 9) (g_Fn_of rfl h_x9_refuse) (cw_9_84) ⟨wd2_186, sel_GalleyRoom_refuse__I_I⟩ ⟨rfl, rfl⟩ ⟨by decide, by show 3 ≤ 21; decide⟩ (Nat.zero_le _) (rec_x9_refuse _) (dc182 (x := 0) (y := 84) bs_x9_pass (by decide +kernel) rfl) rfl (G_goto (off := 8) (nx := 40) (dc167 (x := 0) (y := 8) bs_x9_pass (by decide +kernel) (by decide +kernel)) (by decide +kernel) (G_iret rfl (dc172 bs_x9_pass (by decide +kernel))))))))))))))))))))))
    exact ht _ _ σ q ((e_x9_pass x7_howManyFit x0_attempt x9_refuse x9_answer σ ).symm.trans e1)
  exact g_meth (σ' := q.1) (v := some (.inl q.2)) (by decide) rfl hw hwf hok (Nat.le_of_ble_eq_true rfl) hGo (fun σ2 v2 h => retI_inv h) (by exact e2)

set_option maxRecDepth 100000 in
set_option maxHeartbeats 4000000 in
theorem h_x9_undo : g_Ft M_x9_undo yX9_undo 1 (FW_x9_undo x9_undo) := by
  intro l w hw σ as hlen hwf hok ρ k r e
  unfold FW_x9_undo at e
  obtain ⟨hh0, e⟩ := p_C_inv e
  have e := p_E_inv e
  obtain ⟨q, e1, e2⟩ := Option.bind_eq_some_iff.mp e
  have has : as = [.inr (.inr (some (9, 0)))] := g_as1 hlen hh0
  subst has
  have hGo : g_Go M_x9_undo retI (me M_x9_undo) 0 (g_loc [.inr (.inr (some (9, 0)))] (ml M_x9_undo)) [] σ q := by
    have ht : g_Gd M_x9_undo retI (me M_x9_undo) 0 (t_x9_undo x3_takeBack x9_refuse x9_answer) := (G_ldAn (n := 0) (nx := 1) (dc42 bs_x9_undo (by decide +kernel)) rfl rfl (G_getRc (nx := 4) fl_9_55 rf_9_8 (dc180 (x := 0) (y := 55) bs_x9_undo (by decide +kernel) rfl) rfl (G_ldAn (n := 0) (nx := 5) (dc42 bs_x9_undo (by decide +kernel)) rfl rfl (G_getRc (nx := 8) fl_9_20 rf_9_1 (dc180 (x := 0) (y := 20) bs_x9_undo (by decide +kernel) rfl) rfl (G_callV (b0 := 0) (nx := 11) (T := TX3) (ci := 3) (g_Fn_of rfl h_x3_takeBack) (cw_9_220) ⟨wd4_122, wd4_123⟩ ⟨rfl, rfl⟩ ⟨by decide, by show 2 ≤ 21; decide⟩ (Nat.zero_le _) (rec_x3_takeBack _) (dc182 (x := 0) (y := 220) bs_x9_undo (by decide +kernel) rfl) rfl (G_stIn (n := 1) (nx := 12) (by show 1 < 2; decide) (dc60 bs_x9_undo (by decide +kernel)) rfl rfl (G_ldIn (n := 1) (nx := 13) (dc27 bs_x9_undo (by decide +kernel)) rfl rfl (G_ic (n := -1) (nx := 14) (dc2 bs_x9_undo (by decide +kernel)) icv_m1 rfl (G_icmpne (off := 12) (tg := 26) (nf := 17) (dc160 (x := 0) (y := 12) bs_x9_undo (by decide +kernel) (by decide +kernel)) (by decide +kernel) rfl
  (G_ldAn (n := 0) (nx := 18) (dc42 bs_x9_undo (by decide +kernel)) rfl rfl (G_bi (n := -3) (nx := 20) (dc16 (x := 253) bs_x9_undo (by decide +kernel) (by decide +kernel)) biv_m3 rfl (G_callV (b0 := 0) (nx := 23) (T := TX9) (ci := 9) (g_Fn_of rfl h_x9_refuse) (cw_9_84) ⟨wd2_186, sel_GalleyRoom_refuse__I_I⟩ ⟨rfl, rfl⟩ ⟨by decide, by show 3 ≤ 21; decide⟩ (Nat.zero_le _) (rec_x9_refuse _) (dc182 (x := 0) (y := 84) bs_x9_undo (by decide +kernel) rfl) rfl (G_goto (off := 8) (nx := 31) (dc167 (x := 0) (y := 8) bs_x9_undo (by decide +kernel) (by decide +kernel)) (by decide +kernel) (G_iret rfl (dc172 bs_x9_undo (by decide +kernel)))))))
  (G_ldAn (n := 0) (nx := 27) (dc42 bs_x9_undo (by decide +kernel)) rfl rfl (G_ldIn (n := 1) (nx := 28) (dc27 bs_x9_undo (by decide +kernel)) rfl rfl (G_callV (b0 := 0) (nx := 31) (T := TX9) (ci := 9) (g_Fn_of rfl h_x9_answer) (cw_9_100) ⟨wd2_194, sel_GalleyRoom_answer__I_I⟩ ⟨rfl, rfl⟩ ⟨by decide, by show 2 ≤ 21; decide⟩ (Nat.zero_le _) (rec_x9_answer _) (dc182 (x := 0) (y := 100) bs_x9_undo (by decide +kernel) rfl) rfl (G_iret rfl (dc172 bs_x9_undo (by decide +kernel)))))))))))))))
    exact ht _ _ σ q ((e_x9_undo x3_takeBack x9_refuse x9_answer σ ).symm.trans e1)
  exact g_meth (σ' := q.1) (v := some (.inl q.2)) (by decide) rfl hw hwf hok (Nat.le_of_ble_eq_true rfl) hGo (fun σ2 v2 h => retI_inv h) (by exact e2)

set_option maxRecDepth 100000 in
set_option maxHeartbeats 4000000 in
theorem h_x9_layPaper : g_Ft M_x9_layPaper yX9_layPaper 3 (FW_x9_layPaper x9_layPaper) := by
  intro l w hw σ as hlen hwf hok ρ k r e
  unfold FW_x9_layPaper at e
  obtain ⟨hh0, e⟩ := p_C_inv e
  obtain ⟨g1, hh1, e⟩ := p_R_inv e
  obtain ⟨g2, hh2, e⟩ := p_N_inv e
  have e := p_E_inv e
  obtain ⟨q, e1, e2⟩ := Option.bind_eq_some_iff.mp e
  have has : as = [.inr (.inr (some (9, 0))), .inr (.inr (some (1, g1))), g_nt g2] := g_as3 hlen hh0 hh1 hh2
  subst has
  have hGo : g_Go M_x9_layPaper retV (me M_x9_layPaper) 0 (g_loc [.inr (.inr (some (9, 0))), .inr (.inr (some (1, g1))), g_nt g2] (ml M_x9_layPaper)) [] σ q := by
    have ht : g_Gd M_x9_layPaper retV (me M_x9_layPaper) 0 (t_x9_layPaper x5_layOut) := (G_ldAn (n := 0) (nx := 1) (dc42 bs_x9_layPaper (by decide +kernel)) rfl rfl (G_getRc (nx := 4) fl_9_64 rf_9_10 (dc180 (x := 0) (y := 64) bs_x9_layPaper (by decide +kernel) rfl) rfl (G_ldAn (n := 1) (nx := 5) (dc43 bs_x9_layPaper (by decide +kernel)) rfl rfl (G_ldAn (n := 2) (nx := 6) (dc44 bs_x9_layPaper (by decide +kernel)) rfl rfl (G_ldAn (n := 1) (nx := 7) (dc43 bs_x9_layPaper (by decide +kernel)) rfl rfl (G_getRv (nx := 10) fl_9_144 rf_1_3 (dc180 (x := 0) (y := 144) bs_x9_layPaper (by decide +kernel) rfl) rfl (G_ic (n := 3) (nx := 11) (dc6 bs_x9_layPaper (by decide +kernel)) icv_3 rfl (G_iald (nx := 12) ak_15 (dc46 bs_x9_layPaper (by decide +kernel)) rfl (G_ic (n := 0) (nx := 13) (dc3 bs_x9_layPaper (by decide +kernel)) icv_0 rfl (G_callV (b0 := 0) (nx := 16) (T := TX5) (ci := 5) (g_Fn_of rfl h_x5_layOut) (cw_9_250) ⟨wd4_136, wd4_137⟩ ⟨rfl, rfl⟩ ⟨by decide, by show 7 ≤ 21; decide⟩ (Nat.zero_le _) (rec_x5_layOut _) (dc182 (x := 0) (y := 250) bs_x9_layPaper (by decide +kernel) rfl) rfl (G_vret rfl (dc177 bs_x9_layPaper (by decide +kernel)))))))))))))
    rw [show g_loc [.inr (.inr (some (9, 0))), .inr (.inr (some (1, g1))), g_nt g2] (ml M_x9_layPaper) = [some (.inr (.inr (some (9, 0)))), some (.inr (.inr (some (1, g1)))), some (g_nt g2)] by cases g2 <;> rfl]
    exact ht _ _ σ q ((e_x9_layPaper x5_layOut σ g1 g2).symm.trans e1)
  exact g_meth (σ' := q) (v := none) (by decide) rfl hw hwf hok (by cases g2 <;> exact Nat.le_of_ble_eq_true rfl) hGo (fun σ2 v2 h => retV_inv h) (by exact e2)

set_option maxRecDepth 100000 in
set_option maxHeartbeats 4000000 in
theorem h_x9_best : g_Ft M_x9_best yX9_best 2 (FW_x9_best x9_best) := by
  intro l w hw σ as hlen hwf hok ρ k r e
  unfold FW_x9_best at e
  obtain ⟨hh0, e⟩ := p_C_inv e
  obtain ⟨l1, hh1, e⟩ := p_I_inv e
  have e := p_E_inv e
  obtain ⟨q, e1, e2⟩ := Option.bind_eq_some_iff.mp e
  have has : as = [.inr (.inr (some (9, 0))), .inl l1] := g_as2 hlen hh0 hh1
  subst has
  have hGo : g_Go M_x9_best retI (me M_x9_best) 0 (g_loc [.inr (.inr (some (9, 0))), .inl l1] (ml M_x9_best)) [] σ q := by
    have ht : g_Gd M_x9_best retI (me M_x9_best) 0 (t_x9_best x1_lawInForce x9_layPaper x5_bestCosts x5_bestPlace) := (G_ldAn (n := 0) (nx := 1) (dc42 bs_x9_best (by decide +kernel)) rfl rfl (G_ldAn (n := 0) (nx := 2) (dc42 bs_x9_best (by decide +kernel)) rfl rfl (G_getRc (nx := 5) fl_9_20 rf_9_1 (dc180 (x := 0) (y := 20) bs_x9_best (by decide +kernel) rfl) rfl (G_ldAn (n := 0) (nx := 6) (dc42 bs_x9_best (by decide +kernel)) rfl rfl (G_getRc (nx := 9) fl_9_20 rf_9_1 (dc180 (x := 0) (y := 20) bs_x9_best (by decide +kernel) rfl) rfl (G_callV (b0 := 0) (nx := 12) (T := TX1) (ci := 1) (g_Fn_of rfl h_x1_lawInForce) (cw_9_223) ⟨wd2_236, wd2_237⟩ ⟨rfl, rfl⟩ ⟨by decide, by show 1 ≤ 21; decide⟩ (Nat.zero_le _) (rec_x1_lawInForce _) (dc182 (x := 0) (y := 223) bs_x9_best (by decide +kernel) rfl) rfl (G_callV (b0 := 0) (nx := 15) (T := TX9) (ci := 9) (g_Fn_of rfl h_x9_layPaper) (cw_9_226) ⟨wd4_133, sel_GalleyRoom_layPaper__LGalleyRoom_Galley_LGalleyRoom_Text__V⟩ ⟨rfl, rfl⟩ ⟨by decide, by show 3 ≤ 21; decide⟩ (Nat.zero_le _) (rec_x9_layPaper _) (dc182 (x := 0) (y := 226) bs_x9_best (by decide +kernel) rfl) rfl (G_ldIn (n := 1) (nx := 16) (dc27 bs_x9_best (by decide +kernel)) rfl rfl (G_ic (n := -1) (nx := 17) (dc2 bs_x9_best (by decide +kernel)) icv_m1 rfl (G_icmpne (off := 13) (tg := 30) (nf := 20) (dc160 (x := 0) (y := 13) bs_x9_best (by decide +kernel) (by decide +kernel)) (by decide +kernel) rfl
  (G_ldAn (n := 0) (nx := 21) (dc42 bs_x9_best (by decide +kernel)) rfl rfl (G_getRc (nx := 24) fl_9_64 rf_9_10 (dc180 (x := 0) (y := 64) bs_x9_best (by decide +kernel) rfl) rfl (G_callV (b0 := 0) (nx := 27) (T := TX5) (ci := 5) (g_Fn_of rfl h_x5_bestCosts) (cw_9_230) ⟨wd4_169, wd4_170⟩ ⟨rfl, rfl⟩ ⟨by decide, by show 2 ≤ 21; decide⟩ (Nat.zero_le _) (rec_x5_bestCosts _) (dc182 (x := 0) (y := 230) bs_x9_best (by decide +kernel) rfl) rfl (G_goto (off := 11) (nx := 38) (dc167 (x := 0) (y := 11) bs_x9_best (by decide +kernel) (by decide +kernel)) (by decide +kernel) (G_iret rfl (dc172 bs_x9_best (by decide +kernel)))))))
  (G_ldAn (n := 0) (nx := 31) (dc42 bs_x9_best (by decide +kernel)) rfl rfl (G_getRc (nx := 34) fl_9_64 rf_9_10 (dc180 (x := 0) (y := 64) bs_x9_best (by decide +kernel) rfl) rfl (G_ldIn (n := 1) (nx := 35) (dc27 bs_x9_best (by decide +kernel)) rfl rfl (G_callV (b0 := 0) (nx := 38) (T := TX5) (ci := 5) (g_Fn_of rfl h_x5_bestPlace) (cw_9_234) ⟨wd4_177, wd4_178⟩ ⟨rfl, rfl⟩ ⟨by decide, by show 5 ≤ 21; decide⟩ (Nat.zero_le _) (rec_x5_bestPlace _) (dc182 (x := 0) (y := 234) bs_x9_best (by decide +kernel) rfl) rfl (G_iret rfl (dc172 bs_x9_best (by decide +kernel)))))))))))))))))
    exact ht _ _ σ q ((e_x9_best x1_lawInForce x9_layPaper x5_bestCosts x5_bestPlace σ l1).symm.trans e1)
  exact g_meth (σ' := q.1) (v := some (.inl q.2)) (by decide) rfl hw hwf hok (Nat.le_of_ble_eq_true rfl) hGo (fun σ2 v2 h => retI_inv h) (by exact e2)

set_option maxRecDepth 100000 in
set_option maxHeartbeats 4000000 in
theorem h_x9_just : g_Ft M_x9_just yX9_just 2 (FW_x9_just x9_just) := by
  intro l w hw σ as hlen hwf hok ρ k r e
  unfold FW_x9_just at e
  obtain ⟨hh0, e⟩ := p_C_inv e
  obtain ⟨l1, hh1, e⟩ := p_I_inv e
  have e := p_E_inv e
  obtain ⟨q, e1, e2⟩ := Option.bind_eq_some_iff.mp e
  have has : as = [.inr (.inr (some (9, 0))), .inl l1] := g_as2 hlen hh0 hh1
  subst has
  have hGo : g_Go M_x9_just retI (me M_x9_just) 0 (g_loc [.inr (.inr (some (9, 0))), .inl l1] (ml M_x9_just)) [] σ q := by
    have ht : g_Gd M_x9_just retI (me M_x9_just) 0 (t_x9_just x1_lawInForce x9_layPaper x5_leastOfJust) := (G_ldAn (n := 0) (nx := 1) (dc42 bs_x9_just (by decide +kernel)) rfl rfl (G_ldAn (n := 0) (nx := 2) (dc42 bs_x9_just (by decide +kernel)) rfl rfl (G_getRc (nx := 5) fl_9_20 rf_9_1 (dc180 (x := 0) (y := 20) bs_x9_just (by decide +kernel) rfl) rfl (G_ldAn (n := 0) (nx := 6) (dc42 bs_x9_just (by decide +kernel)) rfl rfl (G_getRc (nx := 9) fl_9_20 rf_9_1 (dc180 (x := 0) (y := 20) bs_x9_just (by decide +kernel) rfl) rfl (G_callV (b0 := 0) (nx := 12) (T := TX1) (ci := 1) (g_Fn_of rfl h_x1_lawInForce) (cw_9_223) ⟨wd2_236, wd2_237⟩ ⟨rfl, rfl⟩ ⟨by decide, by show 1 ≤ 21; decide⟩ (Nat.zero_le _) (rec_x1_lawInForce _) (dc182 (x := 0) (y := 223) bs_x9_just (by decide +kernel) rfl) rfl (G_callV (b0 := 0) (nx := 15) (T := TX9) (ci := 9) (g_Fn_of rfl h_x9_layPaper) (cw_9_226) ⟨wd4_133, sel_GalleyRoom_layPaper__LGalleyRoom_Galley_LGalleyRoom_Text__V⟩ ⟨rfl, rfl⟩ ⟨by decide, by show 3 ≤ 21; decide⟩ (Nat.zero_le _) (rec_x9_layPaper _) (dc182 (x := 0) (y := 226) bs_x9_just (by decide +kernel) rfl) rfl (G_ldAn (n := 0) (nx := 16) (dc42 bs_x9_just (by decide +kernel)) rfl rfl (G_getRc (nx := 19) fl_9_64 rf_9_10 (dc180 (x := 0) (y := 64) bs_x9_just (by decide +kernel) rfl) rfl (G_ldIn (n := 1) (nx := 20) (dc27 bs_x9_just (by decide +kernel)) rfl rfl (G_callV (b0 := 0) (nx := 23) (T := TX5) (ci := 5) (g_Fn_of rfl h_x5_leastOfJust) (cw_9_237) ⟨wd4_185, wd4_186⟩ ⟨rfl, rfl⟩ ⟨by decide, by show 3 ≤ 21; decide⟩ (Nat.zero_le _) (rec_x5_leastOfJust _) (dc182 (x := 0) (y := 237) bs_x9_just (by decide +kernel) rfl) rfl (G_iret rfl (dc172 bs_x9_just (by decide +kernel))))))))))))))
    exact ht _ _ σ q ((e_x9_just x1_lawInForce x9_layPaper x5_leastOfJust σ l1).symm.trans e1)
  exact g_meth (σ' := q.1) (v := some (.inl q.2)) (by decide) rfl hw hwf hok (Nat.le_of_ble_eq_true rfl) hGo (fun σ2 v2 h => retI_inv h) (by exact e2)

set_option maxRecDepth 100000 in
set_option maxHeartbeats 4000000 in
theorem B_x9_fewest_b17 : ∀ (n : Nat) (s : Sg) (l1 : Int32) (r : (Sg × Int32)), x9_fewest_b17 n s l1 = some r → g_Go M_x9_fewest retI 0 17 [some (.inr (.inr (some (9, 0)))), some (.inl l1)] [] s r := by
  intro n
  induction n with
  | zero => intro s l1 r h; cases h
  | succ n hK17 =>
    intro s l1 r h
    have ht : g_Gd M_x9_fewest retI 0 17 (t_x9_fewest_b17 (x9_fewest_b17 n) x5_canBeOf) := (G_ldIn (n := 1) (nx := 18) (dc27 bs_x9_fewest (by decide +kernel)) rfl rfl (G_bi (n := 24) (nx := 20) (dc16 (x := 24) bs_x9_fewest (by decide +kernel) (by decide +kernel)) biv_24 rfl (G_icmpgt (off := 22) (tg := 42) (nf := 23) (dc163 (x := 0) (y := 22) bs_x9_fewest (by decide +kernel) (by decide +kernel)) (by decide +kernel) rfl
    (G_ic (n := -1) (nx := 43) (dc2 bs_x9_fewest (by decide +kernel)) icv_m1 rfl (G_iret rfl (dc172 bs_x9_fewest (by decide +kernel))))
    (G_ldAn (n := 0) (nx := 24) (dc42 bs_x9_fewest (by decide +kernel)) rfl rfl (G_getRc (nx := 27) fl_9_64 rf_9_10 (dc180 (x := 0) (y := 64) bs_x9_fewest (by decide +kernel) rfl) rfl (G_ldIn (n := 1) (nx := 28) (dc27 bs_x9_fewest (by decide +kernel)) rfl rfl (G_callV (b0 := 0) (nx := 31) (T := TX5) (ci := 5) (g_Fn_of rfl h_x5_canBeOf) (cw_9_240) ⟨wd4_193, wd4_194⟩ ⟨rfl, rfl⟩ ⟨by decide, by show 3 ≤ 21; decide⟩ (Nat.zero_le _) (rec_x5_canBeOf _) (dc182 (x := 0) (y := 240) bs_x9_fewest (by decide +kernel) rfl) rfl (G_ifeq (off := 5) (tg := 36) (nf := 34) (dc153 (x := 0) (y := 5) bs_x9_fewest (by decide +kernel) (by decide +kernel)) (by decide +kernel) rfl
      (G_inc (n := 1) (nx := 39) (by show 1 < 2; decide) (dc132 (x := 1) (y := 1) bs_x9_fewest (by decide +kernel) (by decide +kernel)) icv_1 rfl (G_goto (off := -22) (nx := 17) (dc167 (x := 255) (y := 234) bs_x9_fewest (by decide +kernel) (by decide +kernel)) (by decide +kernel) (G_lbl (Gp_C <| Gp_I fun a1 => Gp_E fun s r h => hK17 s a1 r h))))
      (G_ldIn (n := 1) (nx := 35) (dc27 bs_x9_fewest (by decide +kernel)) rfl rfl (G_iret rfl (dc172 bs_x9_fewest (by decide +kernel))))))))))))
    exact ht _ _ s r ((e_x9_fewest_b17 (x9_fewest_b17 n) x5_canBeOf s l1).symm.trans h)

set_option maxRecDepth 100000 in
set_option maxHeartbeats 4000000 in
theorem h_x9_fewest : g_Ft M_x9_fewest yX9_fewest 1 (FW_x9_fewest x9_fewest) := by
  intro l w hw σ as hlen hwf hok ρ k r e
  unfold FW_x9_fewest at e
  obtain ⟨hh0, e⟩ := p_C_inv e
  have e := p_E_inv e
  obtain ⟨q, e1, e2⟩ := Option.bind_eq_some_iff.mp e
  have has : as = [.inr (.inr (some (9, 0)))] := g_as1 hlen hh0
  subst has
  have hGo : g_Go M_x9_fewest retI (me M_x9_fewest) 0 (g_loc [.inr (.inr (some (9, 0)))] (ml M_x9_fewest)) [] σ q := by
    have ht : g_Gd M_x9_fewest retI (me M_x9_fewest) 0 (t_x9_fewest (x9_fewest_b17 FU) x1_lawInForce x9_layPaper) := (G_ldAn (n := 0) (nx := 1) (dc42 bs_x9_fewest (by decide +kernel)) rfl rfl (G_ldAn (n := 0) (nx := 2) (dc42 bs_x9_fewest (by decide +kernel)) rfl rfl (G_getRc (nx := 5) fl_9_20 rf_9_1 (dc180 (x := 0) (y := 20) bs_x9_fewest (by decide +kernel) rfl) rfl (G_ldAn (n := 0) (nx := 6) (dc42 bs_x9_fewest (by decide +kernel)) rfl rfl (G_getRc (nx := 9) fl_9_20 rf_9_1 (dc180 (x := 0) (y := 20) bs_x9_fewest (by decide +kernel) rfl) rfl (G_callV (b0 := 0) (nx := 12) (T := TX1) (ci := 1) (g_Fn_of rfl h_x1_lawInForce) (cw_9_223) ⟨wd2_236, wd2_237⟩ ⟨rfl, rfl⟩ ⟨by decide, by show 1 ≤ 21; decide⟩ (Nat.zero_le _) (rec_x1_lawInForce _) (dc182 (x := 0) (y := 223) bs_x9_fewest (by decide +kernel) rfl) rfl (G_callV (b0 := 0) (nx := 15) (T := TX9) (ci := 9) (g_Fn_of rfl h_x9_layPaper) (cw_9_226) ⟨wd4_133, sel_GalleyRoom_layPaper__LGalleyRoom_Galley_LGalleyRoom_Text__V⟩ ⟨rfl, rfl⟩ ⟨by decide, by show 3 ≤ 21; decide⟩ (Nat.zero_le _) (rec_x9_layPaper _) (dc182 (x := 0) (y := 226) bs_x9_fewest (by decide +kernel) rfl) rfl (G_ic (n := 0) (nx := 16) (dc3 bs_x9_fewest (by decide +kernel)) icv_0 rfl (G_stIn (n := 1) (nx := 17) (by show 1 < 2; decide) (dc60 bs_x9_fewest (by decide +kernel)) rfl rfl (G_lbl (Gp_C <| Gp_I fun a1 => Gp_E fun s r h => B_x9_fewest_b17 FU s a1 r h)))))))))))
    exact ht _ _ σ q ((e_x9_fewest (x9_fewest_b17 FU) x1_lawInForce x9_layPaper σ ).symm.trans e1)
  exact g_meth (σ' := q.1) (v := some (.inl q.2)) (by decide) rfl hw hwf hok (Nat.le_of_ble_eq_true rfl) hGo (fun σ2 v2 h => retI_inv h) (by exact e2)

set_option maxRecDepth 100000 in
set_option maxHeartbeats 4000000 in
theorem B_x9_most_b18 : ∀ (n : Nat) (s : Sg) (l1 : Int32) (r : (Sg × Int32)), x9_most_b18 n s l1 = some r → g_Go M_x9_most retI 0 18 [some (.inr (.inr (some (9, 0)))), some (.inl l1)] [] s r := by
  intro n
  induction n with
  | zero => intro s l1 r h; cases h
  | succ n hK18 =>
    intro s l1 r h
    have ht : g_Gd M_x9_most retI 0 18 (t_x9_most_b18 (x9_most_b18 n) x5_canBeOf) := (G_ldIn (n := 1) (nx := 19) (dc27 bs_x9_most (by decide +kernel)) rfl rfl (G_iflt (off := 22) (tg := 41) (nf := 22) (dc155 (x := 0) (y := 22) bs_x9_most (by decide +kernel) (by decide +kernel)) (by decide +kernel) rfl
    (G_ic (n := -1) (nx := 42) (dc2 bs_x9_most (by decide +kernel)) icv_m1 rfl (G_iret rfl (dc172 bs_x9_most (by decide +kernel))))
    (G_ldAn (n := 0) (nx := 23) (dc42 bs_x9_most (by decide +kernel)) rfl rfl (G_getRc (nx := 26) fl_9_64 rf_9_10 (dc180 (x := 0) (y := 64) bs_x9_most (by decide +kernel) rfl) rfl (G_ldIn (n := 1) (nx := 27) (dc27 bs_x9_most (by decide +kernel)) rfl rfl (G_callV (b0 := 0) (nx := 30) (T := TX5) (ci := 5) (g_Fn_of rfl h_x5_canBeOf) (cw_9_240) ⟨wd4_193, wd4_194⟩ ⟨rfl, rfl⟩ ⟨by decide, by show 3 ≤ 21; decide⟩ (Nat.zero_le _) (rec_x5_canBeOf _) (dc182 (x := 0) (y := 240) bs_x9_most (by decide +kernel) rfl) rfl (G_ifeq (off := 5) (tg := 35) (nf := 33) (dc153 (x := 0) (y := 5) bs_x9_most (by decide +kernel) (by decide +kernel)) (by decide +kernel) rfl
      (G_inc (n := -1) (nx := 38) (by show 1 < 2; decide) (dc132 (x := 1) (y := 255) bs_x9_most (by decide +kernel) (by decide +kernel)) icv_m1 rfl (G_goto (off := -20) (nx := 18) (dc167 (x := 255) (y := 236) bs_x9_most (by decide +kernel) (by decide +kernel)) (by decide +kernel) (G_lbl (Gp_C <| Gp_I fun a1 => Gp_E fun s r h => hK18 s a1 r h))))
      (G_ldIn (n := 1) (nx := 34) (dc27 bs_x9_most (by decide +kernel)) rfl rfl (G_iret rfl (dc172 bs_x9_most (by decide +kernel)))))))))))
    exact ht _ _ s r ((e_x9_most_b18 (x9_most_b18 n) x5_canBeOf s l1).symm.trans h)

set_option maxRecDepth 100000 in
set_option maxHeartbeats 4000000 in
theorem h_x9_most : g_Ft M_x9_most yX9_most 1 (FW_x9_most x9_most) := by
  intro l w hw σ as hlen hwf hok ρ k r e
  unfold FW_x9_most at e
  obtain ⟨hh0, e⟩ := p_C_inv e
  have e := p_E_inv e
  obtain ⟨q, e1, e2⟩ := Option.bind_eq_some_iff.mp e
  have has : as = [.inr (.inr (some (9, 0)))] := g_as1 hlen hh0
  subst has
  have hGo : g_Go M_x9_most retI (me M_x9_most) 0 (g_loc [.inr (.inr (some (9, 0)))] (ml M_x9_most)) [] σ q := by
    have ht : g_Gd M_x9_most retI (me M_x9_most) 0 (t_x9_most (x9_most_b18 FU) x1_lawInForce x9_layPaper) := (G_ldAn (n := 0) (nx := 1) (dc42 bs_x9_most (by decide +kernel)) rfl rfl (G_ldAn (n := 0) (nx := 2) (dc42 bs_x9_most (by decide +kernel)) rfl rfl (G_getRc (nx := 5) fl_9_20 rf_9_1 (dc180 (x := 0) (y := 20) bs_x9_most (by decide +kernel) rfl) rfl (G_ldAn (n := 0) (nx := 6) (dc42 bs_x9_most (by decide +kernel)) rfl rfl (G_getRc (nx := 9) fl_9_20 rf_9_1 (dc180 (x := 0) (y := 20) bs_x9_most (by decide +kernel) rfl) rfl (G_callV (b0 := 0) (nx := 12) (T := TX1) (ci := 1) (g_Fn_of rfl h_x1_lawInForce) (cw_9_223) ⟨wd2_236, wd2_237⟩ ⟨rfl, rfl⟩ ⟨by decide, by show 1 ≤ 21; decide⟩ (Nat.zero_le _) (rec_x1_lawInForce _) (dc182 (x := 0) (y := 223) bs_x9_most (by decide +kernel) rfl) rfl (G_callV (b0 := 0) (nx := 15) (T := TX9) (ci := 9) (g_Fn_of rfl h_x9_layPaper) (cw_9_226) ⟨wd4_133, sel_GalleyRoom_layPaper__LGalleyRoom_Galley_LGalleyRoom_Text__V⟩ ⟨rfl, rfl⟩ ⟨by decide, by show 3 ≤ 21; decide⟩ (Nat.zero_le _) (rec_x9_layPaper _) (dc182 (x := 0) (y := 226) bs_x9_most (by decide +kernel) rfl) rfl (G_bi (n := 24) (nx := 17) (dc16 (x := 24) bs_x9_most (by decide +kernel) (by decide +kernel)) biv_24 rfl (G_stIn (n := 1) (nx := 18) (by show 1 < 2; decide) (dc60 bs_x9_most (by decide +kernel)) rfl rfl (G_lbl (Gp_C <| Gp_I fun a1 => Gp_E fun s r h => B_x9_most_b18 FU s a1 r h)))))))))))
    exact ht _ _ σ q ((e_x9_most (x9_most_b18 FU) x1_lawInForce x9_layPaper σ ).symm.trans e1)
  exact g_meth (σ' := q.1) (v := some (.inl q.2)) (by decide) rfl hw hwf hok (Nat.le_of_ble_eq_true rfl) hGo (fun σ2 v2 h => retI_inv h) (by exact e2)

set_option maxRecDepth 100000 in
set_option maxHeartbeats 4000000 in
theorem h_x9_ways : g_Ft M_x9_ways yX9_ways 1 (FW_x9_ways x9_ways) := by
  intro l w hw σ as hlen hwf hok ρ k r e
  unfold FW_x9_ways at e
  obtain ⟨hh0, e⟩ := p_C_inv e
  have e := p_E_inv e
  obtain ⟨q, e1, e2⟩ := Option.bind_eq_some_iff.mp e
  have has : as = [.inr (.inr (some (9, 0)))] := g_as1 hlen hh0
  subst has
  have hGo : g_Go M_x9_ways retL (me M_x9_ways) 0 (g_loc [.inr (.inr (some (9, 0)))] (ml M_x9_ways)) [] σ q := by
    have ht : g_Gd M_x9_ways retL (me M_x9_ways) 0 (t_x9_ways x1_lawInForce x9_layPaper x5_waysInAll) := (G_ldAn (n := 0) (nx := 1) (dc42 bs_x9_ways (by decide +kernel)) rfl rfl (G_ldAn (n := 0) (nx := 2) (dc42 bs_x9_ways (by decide +kernel)) rfl rfl (G_getRc (nx := 5) fl_9_20 rf_9_1 (dc180 (x := 0) (y := 20) bs_x9_ways (by decide +kernel) rfl) rfl (G_ldAn (n := 0) (nx := 6) (dc42 bs_x9_ways (by decide +kernel)) rfl rfl (G_getRc (nx := 9) fl_9_20 rf_9_1 (dc180 (x := 0) (y := 20) bs_x9_ways (by decide +kernel) rfl) rfl (G_callV (b0 := 0) (nx := 12) (T := TX1) (ci := 1) (g_Fn_of rfl h_x1_lawInForce) (cw_9_223) ⟨wd2_236, wd2_237⟩ ⟨rfl, rfl⟩ ⟨by decide, by show 1 ≤ 21; decide⟩ (Nat.zero_le _) (rec_x1_lawInForce _) (dc182 (x := 0) (y := 223) bs_x9_ways (by decide +kernel) rfl) rfl (G_callV (b0 := 0) (nx := 15) (T := TX9) (ci := 9) (g_Fn_of rfl h_x9_layPaper) (cw_9_226) ⟨wd4_133, sel_GalleyRoom_layPaper__LGalleyRoom_Galley_LGalleyRoom_Text__V⟩ ⟨rfl, rfl⟩ ⟨by decide, by show 3 ≤ 21; decide⟩ (Nat.zero_le _) (rec_x9_layPaper _) (dc182 (x := 0) (y := 226) bs_x9_ways (by decide +kernel) rfl) rfl (G_ldAn (n := 0) (nx := 16) (dc42 bs_x9_ways (by decide +kernel)) rfl rfl (G_getRc (nx := 19) fl_9_64 rf_9_10 (dc180 (x := 0) (y := 64) bs_x9_ways (by decide +kernel) rfl) rfl (G_callV (b0 := 0) (nx := 22) (T := TX5) (ci := 5) (g_Fn_of rfl h_x5_waysInAll) (cw_9_243) ⟨wd4_205, wd4_206⟩ ⟨rfl, rfl⟩ ⟨by decide, by show 5 ≤ 21; decide⟩ (Nat.zero_le _) (rec_x5_waysInAll _) (dc182 (x := 0) (y := 243) bs_x9_ways (by decide +kernel) rfl) rfl (G_lret rfl (dc173 bs_x9_ways (by decide +kernel)))))))))))))
    exact ht _ _ σ q ((e_x9_ways x1_lawInForce x9_layPaper x5_waysInAll σ ).symm.trans e1)
  exact g_meth (σ' := q.1) (v := some (.inr (.inl q.2))) (by decide) rfl hw hwf hok (Nat.le_of_ble_eq_true rfl) hGo (fun σ2 v2 h => retL_inv h) (by exact e2)

set_option maxRecDepth 100000 in
set_option maxHeartbeats 4000000 in
theorem h_x9_richest : g_Ft M_x9_richest yX9_richest 1 (FW_x9_richest x9_richest) := by
  intro l w hw σ as hlen hwf hok ρ k r e
  unfold FW_x9_richest at e
  obtain ⟨hh0, e⟩ := p_C_inv e
  have e := p_E_inv e
  obtain ⟨q, e1, e2⟩ := Option.bind_eq_some_iff.mp e
  have has : as = [.inr (.inr (some (9, 0)))] := g_as1 hlen hh0
  subst has
  have hGo : g_Go M_x9_richest retI (me M_x9_richest) 0 (g_loc [.inr (.inr (some (9, 0)))] (ml M_x9_richest)) [] σ q := by
    have ht : g_Gd M_x9_richest retI (me M_x9_richest) 0 (t_x9_richest x1_lawInForce x9_layPaper x5_mostPaid) := (G_ldAn (n := 0) (nx := 1) (dc42 bs_x9_richest (by decide +kernel)) rfl rfl (G_ldAn (n := 0) (nx := 2) (dc42 bs_x9_richest (by decide +kernel)) rfl rfl (G_getRc (nx := 5) fl_9_20 rf_9_1 (dc180 (x := 0) (y := 20) bs_x9_richest (by decide +kernel) rfl) rfl (G_ldAn (n := 0) (nx := 6) (dc42 bs_x9_richest (by decide +kernel)) rfl rfl (G_getRc (nx := 9) fl_9_20 rf_9_1 (dc180 (x := 0) (y := 20) bs_x9_richest (by decide +kernel) rfl) rfl (G_callV (b0 := 0) (nx := 12) (T := TX1) (ci := 1) (g_Fn_of rfl h_x1_lawInForce) (cw_9_223) ⟨wd2_236, wd2_237⟩ ⟨rfl, rfl⟩ ⟨by decide, by show 1 ≤ 21; decide⟩ (Nat.zero_le _) (rec_x1_lawInForce _) (dc182 (x := 0) (y := 223) bs_x9_richest (by decide +kernel) rfl) rfl (G_callV (b0 := 0) (nx := 15) (T := TX9) (ci := 9) (g_Fn_of rfl h_x9_layPaper) (cw_9_226) ⟨wd4_133, sel_GalleyRoom_layPaper__LGalleyRoom_Galley_LGalleyRoom_Text__V⟩ ⟨rfl, rfl⟩ ⟨by decide, by show 3 ≤ 21; decide⟩ (Nat.zero_le _) (rec_x9_layPaper _) (dc182 (x := 0) (y := 226) bs_x9_richest (by decide +kernel) rfl) rfl (G_ldAn (n := 0) (nx := 16) (dc42 bs_x9_richest (by decide +kernel)) rfl rfl (G_getRc (nx := 19) fl_9_64 rf_9_10 (dc180 (x := 0) (y := 64) bs_x9_richest (by decide +kernel) rfl) rfl (G_callV (b0 := 0) (nx := 22) (T := TX5) (ci := 5) (g_Fn_of rfl h_x5_mostPaid) (cw_9_247) ⟨wd4_213, wd4_214⟩ ⟨rfl, rfl⟩ ⟨by decide, by show 4 ≤ 21; decide⟩ (Nat.zero_le _) (rec_x5_mostPaid _) (dc182 (x := 0) (y := 247) bs_x9_richest (by decide +kernel) rfl) rfl (G_iret rfl (dc172 bs_x9_richest (by decide +kernel)))))))))))))
    exact ht _ _ σ q ((e_x9_richest x1_lawInForce x9_layPaper x5_mostPaid σ ).symm.trans e1)
  exact g_meth (σ' := q.1) (v := some (.inl q.2)) (by decide) rfl hw hwf hok (Nat.le_of_ble_eq_true rfl) hGo (fun σ2 v2 h => retI_inv h) (by exact e2)

set_option maxRecDepth 100000 in
set_option maxHeartbeats 4000000 in
theorem B_x9_narrow_b18 : ∀ (n : Nat) (s : Sg) (l1 : Int32) (l2 : Int32) (r : (Sg × Int32)), x9_narrow_b18 n s l1 l2 = some r → g_Go M_x9_narrow retI 0 18 [some (.inr (.inr (some (9, 0)))), some (.inl l1), some (.inl l2)] [] s r := by
  intro n
  induction n with
  | zero => intro s l1 l2 r h; cases h
  | succ n hK18 =>
    intro s l1 l2 r h
    have ht : g_Gd M_x9_narrow retI 0 18 (t_x9_narrow_b18 (x9_narrow_b18 n) x1_lawInForce x5_layOut x5_canBeOfAtMost) := (G_ldIn (n := 2) (nx := 19) (dc28 bs_x9_narrow (by decide +kernel)) rfl rfl (G_gets (nx := 22) (nm := "MOST_TERM") (Or.inr (Or.inl ⟨rfl, rfl⟩)) rfl (Or.inl wd3_58) (dc178 (x := 0) (y := 141) bs_x9_narrow (by decide +kernel) rfl) rfl (G_ic (n := 3) (nx := 23) (dc6 bs_x9_narrow (by decide +kernel)) icv_3 rfl (G_ialdx (nx := 24) ax_77 (dc46 bs_x9_narrow (by decide +kernel)) rfl (G_icmpgt (off := 42) (tg := 66) (nf := 27) (dc163 (x := 0) (y := 42) bs_x9_narrow (by decide +kernel) (by decide +kernel)) (by decide +kernel) rfl
    (G_ic (n := -1) (nx := 67) (dc2 bs_x9_narrow (by decide +kernel)) icv_m1 rfl (G_iret rfl (dc172 bs_x9_narrow (by decide +kernel))))
    (G_ldAn (n := 0) (nx := 28) (dc42 bs_x9_narrow (by decide +kernel)) rfl rfl (G_getRc (nx := 31) fl_9_64 rf_9_10 (dc180 (x := 0) (y := 64) bs_x9_narrow (by decide +kernel) rfl) rfl (G_ldAn (n := 0) (nx := 32) (dc42 bs_x9_narrow (by decide +kernel)) rfl rfl (G_getRc (nx := 35) fl_9_20 rf_9_1 (dc180 (x := 0) (y := 20) bs_x9_narrow (by decide +kernel) rfl) rfl (G_ldAn (n := 0) (nx := 36) (dc42 bs_x9_narrow (by decide +kernel)) rfl rfl (G_getRc (nx := 39) fl_9_20 rf_9_1 (dc180 (x := 0) (y := 20) bs_x9_narrow (by decide +kernel) rfl) rfl (G_callV (b0 := 0) (nx := 42) (T := TX1) (ci := 1) (g_Fn_of rfl h_x1_lawInForce) (cw_9_223) ⟨wd2_236, wd2_237⟩ ⟨rfl, rfl⟩ ⟨by decide, by show 1 ≤ 21; decide⟩ (Nat.zero_le _) (rec_x1_lawInForce _) (dc182 (x := 0) (y := 223) bs_x9_narrow (by decide +kernel) rfl) rfl (G_ldIn (n := 2) (nx := 43) (dc28 bs_x9_narrow (by decide +kernel)) rfl rfl (G_ic (n := 1) (nx := 44) (dc4 bs_x9_narrow (by decide +kernel)) icv_1 rfl (G_callV (b0 := 0) (nx := 47) (T := TX5) (ci := 5) (g_Fn_of rfl h_x5_layOut) (cw_9_250) ⟨wd4_136, wd4_137⟩ ⟨rfl, rfl⟩ ⟨by decide, by show 7 ≤ 21; decide⟩ (Nat.zero_le _) (rec_x5_layOut _) (dc182 (x := 0) (y := 250) bs_x9_narrow (by decide +kernel) rfl) rfl (G_ldAn (n := 0) (nx := 48) (dc42 bs_x9_narrow (by decide +kernel)) rfl rfl (G_getRc (nx := 51) fl_9_64 rf_9_10 (dc180 (x := 0) (y := 64) bs_x9_narrow (by decide +kernel) rfl) rfl (G_ldIn (n := 1) (nx := 52) (dc27 bs_x9_narrow (by decide +kernel)) rfl rfl (G_callV (b0 := 0) (nx := 55) (T := TX5) (ci := 5) (g_Fn_of rfl h_x5_canBeOfAtMost) (cw_9_254) ⟨wd4_221, wd4_222⟩ ⟨rfl, rfl⟩ ⟨by decide, by show 3 ≤ 21; decide⟩ (Nat.zero_le _) (rec_x5_canBeOfAtMost _) (dc182 (x := 0) (y := 254) bs_x9_narrow (by decide +kernel) rfl) rfl (G_ifeq (off := 5) (tg := 60) (nf := 58) (dc153 (x := 0) (y := 5) bs_x9_narrow (by decide +kernel) (by decide +kernel)) (by decide +kernel) rfl
      (G_inc (n := 1) (nx := 63) (by show 2 < 3; decide) (dc132 (x := 2) (y := 1) bs_x9_narrow (by decide +kernel) (by decide +kernel)) icv_1 rfl (G_goto (off := -45) (nx := 18) (dc167 (x := 255) (y := 211) bs_x9_narrow (by decide +kernel) (by decide +kernel)) (by decide +kernel) (G_lbl (Gp_C <| Gp_I fun a1 => Gp_I fun a2 => Gp_E fun s r h => hK18 s a1 a2 r h))))
      (G_ldIn (n := 2) (nx := 59) (dc28 bs_x9_narrow (by decide +kernel)) rfl rfl (G_iret rfl (dc172 bs_x9_narrow (by decide +kernel))))))))))))))))))))))))
    exact ht _ _ s r ((e_x9_narrow_b18 (x9_narrow_b18 n) x1_lawInForce x5_layOut x5_canBeOfAtMost s l1 l2).symm.trans h)

set_option maxRecDepth 100000 in
set_option maxHeartbeats 4000000 in
theorem h_x9_narrow : g_Ft M_x9_narrow yX9_narrow 2 (FW_x9_narrow x9_narrow) := by
  intro l w hw σ as hlen hwf hok ρ k r e
  unfold FW_x9_narrow at e
  obtain ⟨hh0, e⟩ := p_C_inv e
  obtain ⟨l1, hh1, e⟩ := p_I_inv e
  have e := p_E_inv e
  obtain ⟨q, e1, e2⟩ := Option.bind_eq_some_iff.mp e
  have has : as = [.inr (.inr (some (9, 0))), .inl l1] := g_as2 hlen hh0 hh1
  subst has
  have hGo : g_Go M_x9_narrow retI (me M_x9_narrow) 0 (g_loc [.inr (.inr (some (9, 0))), .inl l1] (ml M_x9_narrow)) [] σ q := by
    have ht : g_Gd M_x9_narrow retI (me M_x9_narrow) 0 (t_x9_narrow (x9_narrow_b18 FU)) := (G_ldIn (n := 1) (nx := 1) (dc27 bs_x9_narrow (by decide +kernel)) rfl rfl (G_iflt (off := 9) (tg := 10) (nf := 4) (dc155 (x := 0) (y := 9) bs_x9_narrow (by decide +kernel) (by decide +kernel)) (by decide +kernel) rfl
  (G_ic (n := -1) (nx := 11) (dc2 bs_x9_narrow (by decide +kernel)) icv_m1 rfl (G_iret rfl (dc172 bs_x9_narrow (by decide +kernel))))
  (G_ldIn (n := 1) (nx := 5) (dc27 bs_x9_narrow (by decide +kernel)) rfl rfl (G_bi (n := 24) (nx := 7) (dc16 (x := 24) bs_x9_narrow (by decide +kernel) (by decide +kernel)) biv_24 rfl (G_icmple (off := 5) (tg := 12) (nf := 10) (dc164 (x := 0) (y := 5) bs_x9_narrow (by decide +kernel) (by decide +kernel)) (by decide +kernel) rfl
    (G_ic (n := -1) (nx := 11) (dc2 bs_x9_narrow (by decide +kernel)) icv_m1 rfl (G_iret rfl (dc172 bs_x9_narrow (by decide +kernel))))
    (G_gets (nx := 15) (nm := "LEAST_TERM") (Or.inl ⟨rfl, rfl⟩) rfl (Or.inl wd3_56) (dc178 (x := 0) (y := 138) bs_x9_narrow (by decide +kernel) rfl) rfl (G_ic (n := 3) (nx := 16) (dc6 bs_x9_narrow (by decide +kernel)) icv_3 rfl (G_ialdx (nx := 17) ax_76 (dc46 bs_x9_narrow (by decide +kernel)) rfl (G_stIn (n := 2) (nx := 18) (by show 2 < 3; decide) (dc61 bs_x9_narrow (by decide +kernel)) rfl rfl (G_lbl (Gp_C <| Gp_I fun a1 => Gp_I fun a2 => Gp_E fun s r h => B_x9_narrow_b18 FU s a1 a2 r h)))))))))))
    exact ht _ _ σ q ((e_x9_narrow (x9_narrow_b18 FU) σ l1).symm.trans e1)
  exact g_meth (σ' := q.1) (v := some (.inl q.2)) (by decide) rfl hw hwf hok (Nat.le_of_ble_eq_true rfl) hGo (fun σ2 v2 h => retI_inv h) (by exact e2)

set_option maxRecDepth 100000 in
set_option maxHeartbeats 4000000 in
theorem B_x9_leaveOut_b18 : ∀ (n : Nat) (s : Sg) (l1 : Int32) (l2 : Int32) (l3 : Int32) (l4 : Int32) (r : (Sg × Int32)), x9_leaveOut_b18 n s l1 l2 l3 l4 = some r → g_Go M_x9_leaveOut retI 0 18 [some (.inr (.inr (some (9, 0)))), some (.inl l1), some (.inl l2), some (.inl l3), some (.inl l4), none] [] s r := by
  intro n
  induction n with
  | zero => intro s l1 l2 l3 l4 r h; cases h
  | succ n hK18 =>
    intro s l1 l2 l3 l4 r h
    have ht : g_Gd M_x9_leaveOut retI 0 18 (t_x9_leaveOut_b18 (x9_leaveOut_b18 n) x1_copyFrom x1_dropWord x1_lawInForce x9_layPaper x5_bestCosts) := (G_ldI (nx := 20) (dc21 (x := 4) bs_x9_leaveOut (by decide +kernel)) rfl (G_ldAn (n := 0) (nx := 21) (dc42 bs_x9_leaveOut (by decide +kernel)) rfl rfl (G_getRc (nx := 24) fl_9_20 rf_9_1 (dc180 (x := 0) (y := 20) bs_x9_leaveOut (by decide +kernel) rfl) rfl (G_getI (nx := 27) fl_9_88 (Or.inl rfl) (dc180 (x := 0) (y := 88) bs_x9_leaveOut (by decide +kernel) rfl) rfl (G_icmpge (off := 76) (tg := 103) (nf := 30) (dc162 (x := 0) (y := 76) bs_x9_leaveOut (by decide +kernel) (by decide +kernel)) (by decide +kernel) rfl
    (G_ldAn (n := 0) (nx := 31) (dc42 bs_x9_leaveOut (by decide +kernel)) rfl rfl (G_getRc (nx := 34) fl_9_26 rf_9_2 (dc180 (x := 0) (y := 26) bs_x9_leaveOut (by decide +kernel) rfl) rfl (G_ldAn (n := 0) (nx := 35) (dc42 bs_x9_leaveOut (by decide +kernel)) rfl rfl (G_getRc (nx := 38) fl_9_20 rf_9_1 (dc180 (x := 0) (y := 20) bs_x9_leaveOut (by decide +kernel) rfl) rfl (G_callV (b0 := 0) (nx := 41) (T := TX1) (ci := 1) (g_Fn_of rfl h_x1_copyFrom) (cw_9_257) ⟨wd4_21, wd4_22⟩ ⟨rfl, rfl⟩ ⟨by decide, by show 3 ≤ 21; decide⟩ (Nat.zero_le _) (rec_x1_copyFrom _) (dc182 (x := 1) (y := 1) bs_x9_leaveOut (by decide +kernel) rfl) rfl (G_ldAn (n := 0) (nx := 42) (dc42 bs_x9_leaveOut (by decide +kernel)) rfl rfl (G_getRc (nx := 45) fl_9_26 rf_9_2 (dc180 (x := 0) (y := 26) bs_x9_leaveOut (by decide +kernel) rfl) rfl (G_ldI (nx := 47) (dc21 (x := 4) bs_x9_leaveOut (by decide +kernel)) rfl (G_callV (b0 := 0) (nx := 50) (T := TX1) (ci := 1) (g_Fn_of rfl h_x1_dropWord) (cw_9_260) ⟨wd4_231, wd4_232⟩ ⟨rfl, rfl⟩ ⟨by decide, by show 3 ≤ 21; decide⟩ (Nat.zero_le _) (rec_x1_dropWord _) (dc182 (x := 1) (y := 4) bs_x9_leaveOut (by decide +kernel) rfl) rfl (G_ldAn (n := 0) (nx := 51) (dc42 bs_x9_leaveOut (by decide +kernel)) rfl rfl (G_ldAn (n := 0) (nx := 52) (dc42 bs_x9_leaveOut (by decide +kernel)) rfl rfl (G_getRc (nx := 55) fl_9_26 rf_9_2 (dc180 (x := 0) (y := 26) bs_x9_leaveOut (by decide +kernel) rfl) rfl (G_ldAn (n := 0) (nx := 56) (dc42 bs_x9_leaveOut (by decide +kernel)) rfl rfl (G_getRc (nx := 59) fl_9_20 rf_9_1 (dc180 (x := 0) (y := 20) bs_x9_leaveOut (by decide +kernel) rfl) rfl (G_callV (b0 := 0) (nx := 62) (T := TX1) (ci := 1) (g_Fn_of rfl h_x1_lawInForce) (cw_9_223) ⟨wd2_236, wd2_237⟩ ⟨rfl, rfl⟩ ⟨by decide, by show 1 ≤ 21; decide⟩ (Nat.zero_le _) (rec_x1_lawInForce _) (dc182 (x := 0) (y := 223) bs_x9_leaveOut (by decide +kernel) rfl) rfl (G_callV (b0 := 0) (nx := 65) (T := TX9) (ci := 9) (g_Fn_of rfl h_x9_layPaper) (cw_9_226) ⟨wd4_133, sel_GalleyRoom_layPaper__LGalleyRoom_Galley_LGalleyRoom_Text__V⟩ ⟨rfl, rfl⟩ ⟨by decide, by show 3 ≤ 21; decide⟩ (Nat.zero_le _) (rec_x9_layPaper _) (dc182 (x := 0) (y := 226) bs_x9_leaveOut (by decide +kernel) rfl) rfl (G_ldAn (n := 0) (nx := 66) (dc42 bs_x9_leaveOut (by decide +kernel)) rfl rfl (G_getRc (nx := 69) fl_9_64 rf_9_10 (dc180 (x := 0) (y := 64) bs_x9_leaveOut (by decide +kernel) rfl) rfl (G_callV (b0 := 0) (nx := 72) (T := TX5) (ci := 5) (g_Fn_of rfl h_x5_bestCosts) (cw_9_230) ⟨wd4_169, wd4_170⟩ ⟨rfl, rfl⟩ ⟨by decide, by show 2 ≤ 21; decide⟩ (Nat.zero_le _) (rec_x5_bestCosts _) (dc182 (x := 0) (y := 230) bs_x9_leaveOut (by decide +kernel) rfl) rfl (G_stI (nx := 74) (by show 5 < 6; decide) (dc54 (x := 5) bs_x9_leaveOut (by decide +kernel)) rfl (G_ldI (nx := 76) (dc21 (x := 5) bs_x9_leaveOut (by decide +kernel)) rfl (G_ic (n := -1) (nx := 77) (dc2 bs_x9_leaveOut (by decide +kernel)) icv_m1 rfl (G_icmpeq (off := 20) (tg := 97) (nf := 80) (dc159 (x := 0) (y := 20) bs_x9_leaveOut (by decide +kernel) (by decide +kernel)) (by decide +kernel) rfl
      (G_inc (n := 1) (nx := 100) (by show 4 < 6; decide) (dc132 (x := 4) (y := 1) bs_x9_leaveOut (by decide +kernel) (by decide +kernel)) icv_1 rfl (G_goto (off := -82) (nx := 18) (dc167 (x := 255) (y := 174) bs_x9_leaveOut (by decide +kernel) (by decide +kernel)) (by decide +kernel) (G_lbl (Gp_C <| Gp_I fun a1 => Gp_I fun a2 => Gp_I fun a3 => Gp_I fun a4 => Gp_E fun s r h => hK18 s a1 a2 a3 a4 r h))))
      (G_ldIn (n := 2) (nx := 81) (dc28 bs_x9_leaveOut (by decide +kernel)) rfl rfl (G_ic (n := -1) (nx := 82) (dc2 bs_x9_leaveOut (by decide +kernel)) icv_m1 rfl (G_icmpeq (off := 9) (tg := 91) (nf := 85) (dc159 (x := 0) (y := 9) bs_x9_leaveOut (by decide +kernel) (by decide +kernel)) (by decide +kernel) rfl
        (G_ldI (nx := 93) (dc21 (x := 4) bs_x9_leaveOut (by decide +kernel)) rfl (G_stIn (n := 2) (nx := 94) (by show 2 < 6; decide) (dc61 bs_x9_leaveOut (by decide +kernel)) rfl rfl (G_ldI (nx := 96) (dc21 (x := 5) bs_x9_leaveOut (by decide +kernel)) rfl (G_stIn (n := 3) (nx := 97) (by show 3 < 6; decide) (dc62 bs_x9_leaveOut (by decide +kernel)) rfl rfl (G_inc (n := 1) (nx := 100) (by show 4 < 6; decide) (dc132 (x := 4) (y := 1) bs_x9_leaveOut (by decide +kernel) (by decide +kernel)) icv_1 rfl (G_goto (off := -82) (nx := 18) (dc167 (x := 255) (y := 174) bs_x9_leaveOut (by decide +kernel) (by decide +kernel)) (by decide +kernel) (G_lbl (Gp_C <| Gp_I fun a1 => Gp_I fun a2 => Gp_I fun a3 => Gp_I fun a4 => Gp_E fun s r h => hK18 s a1 a2 a3 a4 r h))))))))
        (G_ldI (nx := 87) (dc21 (x := 5) bs_x9_leaveOut (by decide +kernel)) rfl (G_ldIn (n := 3) (nx := 88) (dc29 bs_x9_leaveOut (by decide +kernel)) rfl rfl (G_icmpge (off := 9) (tg := 97) (nf := 91) (dc162 (x := 0) (y := 9) bs_x9_leaveOut (by decide +kernel) (by decide +kernel)) (by decide +kernel) rfl
          (G_ldI (nx := 93) (dc21 (x := 4) bs_x9_leaveOut (by decide +kernel)) rfl (G_stIn (n := 2) (nx := 94) (by show 2 < 6; decide) (dc61 bs_x9_leaveOut (by decide +kernel)) rfl rfl (G_ldI (nx := 96) (dc21 (x := 5) bs_x9_leaveOut (by decide +kernel)) rfl (G_stIn (n := 3) (nx := 97) (by show 3 < 6; decide) (dc62 bs_x9_leaveOut (by decide +kernel)) rfl rfl (G_inc (n := 1) (nx := 100) (by show 4 < 6; decide) (dc132 (x := 4) (y := 1) bs_x9_leaveOut (by decide +kernel) (by decide +kernel)) icv_1 rfl (G_goto (off := -82) (nx := 18) (dc167 (x := 255) (y := 174) bs_x9_leaveOut (by decide +kernel) (by decide +kernel)) (by decide +kernel) (G_lbl (Gp_C <| Gp_I fun a1 => Gp_I fun a2 => Gp_I fun a3 => Gp_I fun a4 => Gp_E fun s r h => hK18 s a1 a2 a3 a4 r h))))))))
          (G_inc (n := 1) (nx := 100) (by show 4 < 6; decide) (dc132 (x := 4) (y := 1) bs_x9_leaveOut (by decide +kernel) (by decide +kernel)) icv_1 rfl (G_goto (off := -82) (nx := 18) (dc167 (x := 255) (y := 174) bs_x9_leaveOut (by decide +kernel) (by decide +kernel)) (by decide +kernel) (G_lbl (Gp_C <| Gp_I fun a1 => Gp_I fun a2 => Gp_I fun a3 => Gp_I fun a4 => Gp_E fun s r h => hK18 s a1 a2 a3 a4 r h)))))))))))))))))))))))))))))))))
    (G_ldIn (n := 1) (nx := 104) (dc27 bs_x9_leaveOut (by decide +kernel)) rfl rfl (G_ifne (off := 7) (tg := 111) (nf := 107) (dc154 (x := 0) (y := 7) bs_x9_leaveOut (by decide +kernel) (by decide +kernel)) (by decide +kernel) rfl
      (G_ldIn (n := 2) (nx := 108) (dc28 bs_x9_leaveOut (by decide +kernel)) rfl rfl (G_goto (off := 4) (nx := 112) (dc167 (x := 0) (y := 4) bs_x9_leaveOut (by decide +kernel) (by decide +kernel)) (by decide +kernel) (G_iret rfl (dc172 bs_x9_leaveOut (by decide +kernel)))))
      (G_ldIn (n := 3) (nx := 112) (dc29 bs_x9_leaveOut (by decide +kernel)) rfl rfl (G_iret rfl (dc172 bs_x9_leaveOut (by decide +kernel)))))))))))
    exact ht _ _ s r ((e_x9_leaveOut_b18 (x9_leaveOut_b18 n) x1_copyFrom x1_dropWord x1_lawInForce x9_layPaper x5_bestCosts s l1 l2 l3 l4).symm.trans h)

set_option maxRecDepth 100000 in
set_option maxHeartbeats 4000000 in
theorem h_x9_leaveOut : g_Ft M_x9_leaveOut yX9_leaveOut 2 (FW_x9_leaveOut x9_leaveOut) := by
  intro l w hw σ as hlen hwf hok ρ k r e
  unfold FW_x9_leaveOut at e
  obtain ⟨hh0, e⟩ := p_C_inv e
  obtain ⟨l1, hh1, e⟩ := p_I_inv e
  have e := p_E_inv e
  obtain ⟨q, e1, e2⟩ := Option.bind_eq_some_iff.mp e
  have has : as = [.inr (.inr (some (9, 0))), .inl l1] := g_as2 hlen hh0 hh1
  subst has
  have hGo : g_Go M_x9_leaveOut retI (me M_x9_leaveOut) 0 (g_loc [.inr (.inr (some (9, 0))), .inl l1] (ml M_x9_leaveOut)) [] σ q := by
    have ht : g_Gd M_x9_leaveOut retI (me M_x9_leaveOut) 0 (t_x9_leaveOut (x9_leaveOut_b18 FU)) := (G_ldIn (n := 1) (nx := 1) (dc27 bs_x9_leaveOut (by decide +kernel)) rfl rfl (G_iflt (off := 8) (tg := 9) (nf := 4) (dc155 (x := 0) (y := 8) bs_x9_leaveOut (by decide +kernel) (by decide +kernel)) (by decide +kernel) rfl
  (G_ic (n := -1) (nx := 10) (dc2 bs_x9_leaveOut (by decide +kernel)) icv_m1 rfl (G_iret rfl (dc172 bs_x9_leaveOut (by decide +kernel))))
  (G_ldIn (n := 1) (nx := 5) (dc27 bs_x9_leaveOut (by decide +kernel)) rfl rfl (G_ic (n := 1) (nx := 6) (dc4 bs_x9_leaveOut (by decide +kernel)) icv_1 rfl (G_icmple (off := 5) (tg := 11) (nf := 9) (dc164 (x := 0) (y := 5) bs_x9_leaveOut (by decide +kernel) (by decide +kernel)) (by decide +kernel) rfl
    (G_ic (n := -1) (nx := 10) (dc2 bs_x9_leaveOut (by decide +kernel)) icv_m1 rfl (G_iret rfl (dc172 bs_x9_leaveOut (by decide +kernel))))
    (G_ic (n := -1) (nx := 12) (dc2 bs_x9_leaveOut (by decide +kernel)) icv_m1 rfl (G_stIn (n := 2) (nx := 13) (by show 2 < 6; decide) (dc61 bs_x9_leaveOut (by decide +kernel)) rfl rfl (G_ic (n := -1) (nx := 14) (dc2 bs_x9_leaveOut (by decide +kernel)) icv_m1 rfl (G_stIn (n := 3) (nx := 15) (by show 3 < 6; decide) (dc62 bs_x9_leaveOut (by decide +kernel)) rfl rfl (G_ic (n := 0) (nx := 16) (dc3 bs_x9_leaveOut (by decide +kernel)) icv_0 rfl (G_stI (nx := 18) (by show 4 < 6; decide) (dc54 (x := 4) bs_x9_leaveOut (by decide +kernel)) rfl (G_lbl (Gp_C <| Gp_I fun a1 => Gp_I fun a2 => Gp_I fun a3 => Gp_I fun a4 => Gp_E fun s r h => B_x9_leaveOut_b18 FU s a1 a2 a3 a4 r h)))))))))))))
    exact ht _ _ σ q ((e_x9_leaveOut (x9_leaveOut_b18 FU) σ l1).symm.trans e1)
  exact g_meth (σ' := q.1) (v := some (.inl q.2)) (by decide) rfl hw hwf hok (Nat.le_of_ble_eq_true rfl) hGo (fun σ2 v2 h => retI_inv h) (by exact e2)

set_option maxRecDepth 100000 in
set_option maxHeartbeats 4000000 in
theorem h_x9_river : g_Ft M_x9_river yX9_river 1 (FW_x9_river x9_river) := by
  intro l w hw σ as hlen hwf hok ρ k r e
  unfold FW_x9_river at e
  obtain ⟨hh0, e⟩ := p_C_inv e
  have e := p_E_inv e
  obtain ⟨q, e1, e2⟩ := Option.bind_eq_some_iff.mp e
  have has : as = [.inr (.inr (some (9, 0)))] := g_as1 hlen hh0
  subst has
  have hGo : g_Go M_x9_river retI (me M_x9_river) 0 (g_loc [.inr (.inr (some (9, 0)))] (ml M_x9_river)) [] σ q := by
    have ht : g_Gd M_x9_river retI (me M_x9_river) 0 (t_x9_river x7_readSetting x7_longestRiver) := (G_ldAn (n := 0) (nx := 1) (dc42 bs_x9_river (by decide +kernel)) rfl rfl (G_getRc (nx := 4) fl_9_60 rf_9_9 (dc180 (x := 0) (y := 60) bs_x9_river (by decide +kernel) rfl) rfl (G_ldAn (n := 0) (nx := 5) (dc42 bs_x9_river (by decide +kernel)) rfl rfl (G_getRc (nx := 8) fl_9_20 rf_9_1 (dc180 (x := 0) (y := 20) bs_x9_river (by decide +kernel) rfl) rfl (G_callV (b0 := 0) (nx := 11) (T := TX7) (ci := 7) (g_Fn_of rfl h_x7_readSetting) (cw_9_122) ⟨wd2_218, wd2_219⟩ ⟨rfl, rfl⟩ ⟨by decide, by show 4 ≤ 21; decide⟩ (Nat.zero_le _) (rec_x7_readSetting _) (dc182 (x := 0) (y := 122) bs_x9_river (by decide +kernel) rfl) rfl (G_ldAn (n := 0) (nx := 12) (dc42 bs_x9_river (by decide +kernel)) rfl rfl (G_getRc (nx := 15) fl_9_60 rf_9_9 (dc180 (x := 0) (y := 60) bs_x9_river (by decide +kernel) rfl) rfl (G_ldAn (n := 0) (nx := 16) (dc42 bs_x9_river (by decide +kernel)) rfl rfl (G_getRc (nx := 19) fl_9_20 rf_9_1 (dc180 (x := 0) (y := 20) bs_x9_river (by decide +kernel) rfl) rfl (G_callV (b0 := 0) (nx := 22) (T := TX7) (ci := 7) (g_Fn_of rfl h_x7_longestRiver) (cw_9_263) ⟨wd4_239, wd5_0⟩ ⟨rfl, rfl⟩ ⟨by decide, by show 7 ≤ 21; decide⟩ (Nat.zero_le _) (rec_x7_longestRiver _) (dc182 (x := 1) (y := 7) bs_x9_river (by decide +kernel) rfl) rfl (G_iret rfl (dc172 bs_x9_river (by decide +kernel)))))))))))))
    exact ht _ _ σ q ((e_x9_river x7_readSetting x7_longestRiver σ ).symm.trans e1)
  exact g_meth (σ' := q.1) (v := some (.inl q.2)) (by decide) rfl hw hwf hok (Nat.le_of_ble_eq_true rfl) hGo (fun σ2 v2 h => retI_inv h) (by exact e2)

set_option maxRecDepth 100000 in
set_option maxHeartbeats 4000000 in
theorem h_x9_seen : g_Ft M_x9_seen yX9_seen 3 (FW_x9_seen x9_seen) := by
  intro l w hw σ as hlen hwf hok ρ k r e
  unfold FW_x9_seen at e
  obtain ⟨hh0, e⟩ := p_C_inv e
  obtain ⟨l1, hh1, e⟩ := p_I_inv e
  obtain ⟨l2, hh2, e⟩ := p_I_inv e
  have e := p_E_inv e
  obtain ⟨q, e1, e2⟩ := Option.bind_eq_some_iff.mp e
  have has : as = [.inr (.inr (some (9, 0))), .inl l1, .inl l2] := g_as3 hlen hh0 hh1 hh2
  subst has
  have hGo : g_Go M_x9_seen retI (me M_x9_seen) 0 (g_loc [.inr (.inr (some (9, 0))), .inl l1, .inl l2] (ml M_x9_seen)) [] σ q := by
    have ht : g_Gd M_x9_seen retI (me M_x9_seen) 0 (t_x9_seen x9_refuse x9_answer) := (G_ldIn (n := 1) (nx := 1) (dc27 bs_x9_seen (by decide +kernel)) rfl rfl (G_iflt (off := 22) (tg := 23) (nf := 4) (dc155 (x := 0) (y := 22) bs_x9_seen (by decide +kernel) (by decide +kernel)) (by decide +kernel) rfl
  (G_ldAn (n := 0) (nx := 24) (dc42 bs_x9_seen (by decide +kernel)) rfl rfl (G_ic (n := -1) (nx := 25) (dc2 bs_x9_seen (by decide +kernel)) icv_m1 rfl (G_callV (b0 := 0) (nx := 28) (T := TX9) (ci := 9) (g_Fn_of rfl h_x9_refuse) (cw_9_84) ⟨wd2_186, sel_GalleyRoom_refuse__I_I⟩ ⟨rfl, rfl⟩ ⟨by decide, by show 3 ≤ 21; decide⟩ (Nat.zero_le _) (rec_x9_refuse _) (dc182 (x := 0) (y := 84) bs_x9_seen (by decide +kernel) rfl) rfl (G_iret rfl (dc172 bs_x9_seen (by decide +kernel))))))
  (G_ldIn (n := 1) (nx := 5) (dc27 bs_x9_seen (by decide +kernel)) rfl rfl (G_gets (nx := 8) (nm := "TOLD_BY_FACT") (Or.inr (Or.inr ⟨rfl, rfl⟩)) rfl (Or.inl wd5_15) (dc178 (x := 1) (y := 10) bs_x9_seen (by decide +kernel) rfl) rfl (G_alenx (nx := 9) ax_78 (dc190 bs_x9_seen (by decide +kernel)) rfl (G_icmpge (off := 14) (tg := 23) (nf := 12) (dc162 (x := 0) (y := 14) bs_x9_seen (by decide +kernel) (by decide +kernel)) (by decide +kernel) rfl
    (G_ldIn (n := 2) (nx := 13) (dc28 bs_x9_seen (by decide +kernel)) rfl rfl (G_iflt (off := 10) (tg := 23) (nf := 16) (dc155 (x := 0) (y := 10) bs_x9_seen (by decide +kernel) (by decide +kernel)) (by decide +kernel) rfl
      (G_ldAn (n := 0) (nx := 24) (dc42 bs_x9_seen (by decide +kernel)) rfl rfl (G_ic (n := -1) (nx := 25) (dc2 bs_x9_seen (by decide +kernel)) icv_m1 rfl (G_callV (b0 := 0) (nx := 28) (T := TX9) (ci := 9) (g_Fn_of rfl h_x9_refuse) (cw_9_84) ⟨wd2_186, sel_GalleyRoom_refuse__I_I⟩ ⟨rfl, rfl⟩ ⟨by decide, by show 3 ≤ 21; decide⟩ (Nat.zero_le _) (rec_x9_refuse _) (dc182 (x := 0) (y := 84) bs_x9_seen (by decide +kernel) rfl) rfl (G_iret rfl (dc172 bs_x9_seen (by decide +kernel))))))
      (G_ldIn (n := 2) (nx := 17) (dc28 bs_x9_seen (by decide +kernel)) rfl rfl (G_si (n := 999) (nx := 20) (dc17 (x := 3) (y := 231) bs_x9_seen (by decide +kernel) (by decide +kernel)) siv_999 rfl (G_icmple (off := 9) (tg := 29) (nf := 23) (dc164 (x := 0) (y := 9) bs_x9_seen (by decide +kernel) (by decide +kernel)) (by decide +kernel) rfl
        (G_ldAn (n := 0) (nx := 24) (dc42 bs_x9_seen (by decide +kernel)) rfl rfl (G_ic (n := -1) (nx := 25) (dc2 bs_x9_seen (by decide +kernel)) icv_m1 rfl (G_callV (b0 := 0) (nx := 28) (T := TX9) (ci := 9) (g_Fn_of rfl h_x9_refuse) (cw_9_84) ⟨wd2_186, sel_GalleyRoom_refuse__I_I⟩ ⟨rfl, rfl⟩ ⟨by decide, by show 3 ≤ 21; decide⟩ (Nat.zero_le _) (rec_x9_refuse _) (dc182 (x := 0) (y := 84) bs_x9_seen (by decide +kernel) rfl) rfl (G_iret rfl (dc172 bs_x9_seen (by decide +kernel))))))
        (G_ldAn (n := 0) (nx := 30) (dc42 bs_x9_seen (by decide +kernel)) rfl rfl (G_getRc (nx := 33) fl_9_20 rf_9_1 (dc180 (x := 0) (y := 20) bs_x9_seen (by decide +kernel) rfl) rfl (G_getI (nx := 36) fl_9_269 (Or.inl rfl) (dc180 (x := 1) (y := 13) bs_x9_seen (by decide +kernel) rfl) rfl (G_bi (n := 6) (nx := 38) (dc16 (x := 6) bs_x9_seen (by decide +kernel) (by decide +kernel)) biv_6 rfl (G_icmplt (off := 10) (tg := 48) (nf := 41) (dc161 (x := 0) (y := 10) bs_x9_seen (by decide +kernel) (by decide +kernel)) (by decide +kernel) rfl
          (G_ldAn (n := 0) (nx := 49) (dc42 bs_x9_seen (by decide +kernel)) rfl rfl (G_getRc (nx := 52) fl_9_20 rf_9_1 (dc180 (x := 0) (y := 20) bs_x9_seen (by decide +kernel) rfl) rfl (G_getRv (nx := 55) fl_9_272 rf_1_4 (dc180 (x := 1) (y := 16) bs_x9_seen (by decide +kernel) rfl) rfl (G_ldAn (n := 0) (nx := 56) (dc42 bs_x9_seen (by decide +kernel)) rfl rfl (G_getRc (nx := 59) fl_9_20 rf_9_1 (dc180 (x := 0) (y := 20) bs_x9_seen (by decide +kernel) rfl) rfl (G_getI (nx := 62) fl_9_269 (Or.inl rfl) (dc180 (x := 1) (y := 13) bs_x9_seen (by decide +kernel) rfl) rfl (G_ldIn (n := 1) (nx := 63) (dc27 bs_x9_seen (by decide +kernel)) rfl rfl (G_iast (nx := 64) ak_16 (by decide) (dc79 bs_x9_seen (by decide +kernel)) rfl (G_ldAn (n := 0) (nx := 65) (dc42 bs_x9_seen (by decide +kernel)) rfl rfl (G_getRc (nx := 68) fl_9_20 rf_9_1 (dc180 (x := 0) (y := 20) bs_x9_seen (by decide +kernel) rfl) rfl (G_getRv (nx := 71) fl_9_275 rf_1_5 (dc180 (x := 1) (y := 19) bs_x9_seen (by decide +kernel) rfl) rfl (G_ldAn (n := 0) (nx := 72) (dc42 bs_x9_seen (by decide +kernel)) rfl rfl (G_getRc (nx := 75) fl_9_20 rf_9_1 (dc180 (x := 0) (y := 20) bs_x9_seen (by decide +kernel) rfl) rfl (G_getI (nx := 78) fl_9_269 (Or.inl rfl) (dc180 (x := 1) (y := 13) bs_x9_seen (by decide +kernel) rfl) rfl (G_ldIn (n := 2) (nx := 79) (dc28 bs_x9_seen (by decide +kernel)) rfl rfl (G_iast (nx := 80) ak_17 (by decide) (dc79 bs_x9_seen (by decide +kernel)) rfl (G_ldAn (n := 0) (nx := 81) (dc42 bs_x9_seen (by decide +kernel)) rfl rfl (G_getRc (nx := 84) fl_9_20 rf_9_1 (dc180 (x := 0) (y := 20) bs_x9_seen (by decide +kernel) rfl) rfl (G_dup (nx := 85) (dc89 bs_x9_seen (by decide +kernel)) rfl (G_getI (nx := 88) fl_9_269 (Or.inl rfl) (dc180 (x := 1) (y := 13) bs_x9_seen (by decide +kernel) rfl) rfl (G_ic (n := 1) (nx := 89) (dc4 bs_x9_seen (by decide +kernel)) icv_1 rfl (G_iadd (nx := 90) (dc96 bs_x9_seen (by decide +kernel)) rfl (G_putI (nx := 93) fp_9_269 rfl (dc181 (x := 1) (y := 13) bs_x9_seen (by decide +kernel) rfl) rfl (G_ldAn (n := 0) (nx := 94) (dc42 bs_x9_seen (by decide +kernel)) rfl rfl (G_ldAn (n := 0) (nx := 95) (dc42 bs_x9_seen (by decide +kernel)) rfl rfl (G_getRc (nx := 98) fl_9_20 rf_9_1 (dc180 (x := 0) (y := 20) bs_x9_seen (by decide +kernel) rfl) rfl (G_getI (nx := 101) fl_9_269 (Or.inl rfl) (dc180 (x := 1) (y := 13) bs_x9_seen (by decide +kernel) rfl) rfl (G_callV (b0 := 0) (nx := 104) (T := TX9) (ci := 9) (g_Fn_of rfl h_x9_answer) (cw_9_100) ⟨wd2_194, sel_GalleyRoom_answer__I_I⟩ ⟨rfl, rfl⟩ ⟨by decide, by show 2 ≤ 21; decide⟩ (Nat.zero_le _) (rec_x9_answer _) (dc182 (x := 0) (y := 100) bs_x9_seen (by decide +kernel) rfl) rfl (G_iret rfl (dc172 bs_x9_seen (by decide +kernel)))))))))))))))))))))))))))))))
          (G_ldAn (n := 0) (nx := 42) (dc42 bs_x9_seen (by decide +kernel)) rfl rfl (G_bi (n := -5) (nx := 44) (dc16 (x := 251) bs_x9_seen (by decide +kernel) (by decide +kernel)) biv_m5 rfl (G_callV (b0 := 0) (nx := 47) (T := TX9) (ci := 9) (g_Fn_of rfl h_x9_refuse) (cw_9_84) ⟨wd2_186, sel_GalleyRoom_refuse__I_I⟩ ⟨rfl, rfl⟩ ⟨by decide, by show 3 ≤ 21; decide⟩ (Nat.zero_le _) (rec_x9_refuse _) (dc182 (x := 0) (y := 84) bs_x9_seen (by decide +kernel) rfl) rfl (G_iret rfl (dc172 bs_x9_seen (by decide +kernel))))))))))))))))
    (G_ldAn (n := 0) (nx := 24) (dc42 bs_x9_seen (by decide +kernel)) rfl rfl (G_ic (n := -1) (nx := 25) (dc2 bs_x9_seen (by decide +kernel)) icv_m1 rfl (G_callV (b0 := 0) (nx := 28) (T := TX9) (ci := 9) (g_Fn_of rfl h_x9_refuse) (cw_9_84) ⟨wd2_186, sel_GalleyRoom_refuse__I_I⟩ ⟨rfl, rfl⟩ ⟨by decide, by show 3 ≤ 21; decide⟩ (Nat.zero_le _) (rec_x9_refuse _) (dc182 (x := 0) (y := 84) bs_x9_seen (by decide +kernel) rfl) rfl (G_iret rfl (dc172 bs_x9_seen (by decide +kernel))))))))))))
    exact ht _ _ σ q ((e_x9_seen x9_refuse x9_answer σ l1 l2).symm.trans e1)
  exact g_meth (σ' := q.1) (v := some (.inl q.2)) (by decide) rfl hw hwf hok (Nat.le_of_ble_eq_true rfl) hGo (fun σ2 v2 h => retI_inv h) (by exact e2)

set_option maxRecDepth 100000 in
set_option maxHeartbeats 4000000 in
theorem h_x9_forget : g_Ft M_x9_forget yX9_forget 1 (FW_x9_forget x9_forget) := by
  intro l w hw σ as hlen hwf hok ρ k r e
  unfold FW_x9_forget at e
  obtain ⟨hh0, e⟩ := p_C_inv e
  have e := p_E_inv e
  obtain ⟨q, e1, e2⟩ := Option.bind_eq_some_iff.mp e
  have has : as = [.inr (.inr (some (9, 0)))] := g_as1 hlen hh0
  subst has
  have hGo : g_Go M_x9_forget retI (me M_x9_forget) 0 (g_loc [.inr (.inr (some (9, 0)))] (ml M_x9_forget)) [] σ q := by
    have ht : g_Gd M_x9_forget retI (me M_x9_forget) 0 (t_x9_forget) := (G_ldAn (n := 0) (nx := 1) (dc42 bs_x9_forget (by decide +kernel)) rfl rfl (G_getRc (nx := 4) fl_9_20 rf_9_1 (dc180 (x := 0) (y := 20) bs_x9_forget (by decide +kernel) rfl) rfl (G_getI (nx := 7) fl_9_269 (Or.inl rfl) (dc180 (x := 1) (y := 13) bs_x9_forget (by decide +kernel) rfl) rfl (G_stIn (n := 1) (nx := 8) (by show 1 < 2; decide) (dc60 bs_x9_forget (by decide +kernel)) rfl rfl (G_ldAn (n := 0) (nx := 9) (dc42 bs_x9_forget (by decide +kernel)) rfl rfl (G_getRc (nx := 12) fl_9_20 rf_9_1 (dc180 (x := 0) (y := 20) bs_x9_forget (by decide +kernel) rfl) rfl (G_ic (n := 0) (nx := 13) (dc3 bs_x9_forget (by decide +kernel)) icv_0 rfl (G_putI (nx := 16) fp_9_269 rfl (dc181 (x := 1) (y := 13) bs_x9_forget (by decide +kernel) rfl) rfl (G_ldIn (n := 1) (nx := 17) (dc27 bs_x9_forget (by decide +kernel)) rfl rfl (G_iret rfl (dc172 bs_x9_forget (by decide +kernel))))))))))))
    exact ht _ _ σ q ((e_x9_forget  σ ).symm.trans e1)
  exact g_meth (σ' := q.1) (v := some (.inl q.2)) (by decide) rfl hw hwf hok (Nat.le_of_ble_eq_true rfl) hGo (fun σ2 v2 h => retI_inv h) (by exact e2)

set_option maxRecDepth 100000 in
set_option maxHeartbeats 4000000 in
theorem h_x9_canBe : g_Ft M_x9_canBe yX9_canBe 1 (FW_x9_canBe x9_canBe) := by
  intro l w hw σ as hlen hwf hok ρ k r e
  unfold FW_x9_canBe at e
  obtain ⟨hh0, e⟩ := p_C_inv e
  have e := p_E_inv e
  obtain ⟨q, e1, e2⟩ := Option.bind_eq_some_iff.mp e
  have has : as = [.inr (.inr (some (9, 0)))] := g_as1 hlen hh0
  subst has
  have hGo : g_Go M_x9_canBe retI (me M_x9_canBe) 0 (g_loc [.inr (.inr (some (9, 0)))] (ml M_x9_canBe)) [] σ q := by
    have ht : g_Gd M_x9_canBe retI (me M_x9_canBe) 0 (t_x9_canBe x7_readSetting x7_linesAsSeen) := (G_ldAn (n := 0) (nx := 1) (dc42 bs_x9_canBe (by decide +kernel)) rfl rfl (G_getRc (nx := 4) fl_9_60 rf_9_9 (dc180 (x := 0) (y := 60) bs_x9_canBe (by decide +kernel) rfl) rfl (G_ldAn (n := 0) (nx := 5) (dc42 bs_x9_canBe (by decide +kernel)) rfl rfl (G_getRc (nx := 8) fl_9_20 rf_9_1 (dc180 (x := 0) (y := 20) bs_x9_canBe (by decide +kernel) rfl) rfl (G_callV (b0 := 0) (nx := 11) (T := TX7) (ci := 7) (g_Fn_of rfl h_x7_readSetting) (cw_9_122) ⟨wd2_218, wd2_219⟩ ⟨rfl, rfl⟩ ⟨by decide, by show 4 ≤ 21; decide⟩ (Nat.zero_le _) (rec_x7_readSetting _) (dc182 (x := 0) (y := 122) bs_x9_canBe (by decide +kernel) rfl) rfl (G_ldAn (n := 0) (nx := 12) (dc42 bs_x9_canBe (by decide +kernel)) rfl rfl (G_getRc (nx := 15) fl_9_60 rf_9_9 (dc180 (x := 0) (y := 60) bs_x9_canBe (by decide +kernel) rfl) rfl (G_ldAn (n := 0) (nx := 16) (dc42 bs_x9_canBe (by decide +kernel)) rfl rfl (G_getRc (nx := 19) fl_9_20 rf_9_1 (dc180 (x := 0) (y := 20) bs_x9_canBe (by decide +kernel) rfl) rfl (G_callV (b0 := 0) (nx := 22) (T := TX7) (ci := 7) (g_Fn_of rfl h_x7_linesAsSeen) (cw_9_278) ⟨wd5_26, wd5_27⟩ ⟨rfl, rfl⟩ ⟨by decide, by show 4 ≤ 21; decide⟩ (Nat.zero_le _) (rec_x7_linesAsSeen _) (dc182 (x := 1) (y := 22) bs_x9_canBe (by decide +kernel) rfl) rfl (G_iret rfl (dc172 bs_x9_canBe (by decide +kernel)))))))))))))
    exact ht _ _ σ q ((e_x9_canBe x7_readSetting x7_linesAsSeen σ ).symm.trans e1)
  exact g_meth (σ' := q.1) (v := some (.inl q.2)) (by decide) rfl hw hwf hok (Nat.le_of_ble_eq_true rfl) hGo (fun σ2 v2 h => retI_inv h) (by exact e2)

