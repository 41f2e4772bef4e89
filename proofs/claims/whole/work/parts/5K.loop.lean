/-! THE LAW'S LOOP -/
theorem lw_63 (x : Int32) : ∃ j : Nat, (x &&& 63).toInt = j := by
  have h : (x &&& 63).toBitVec.toNat ≤ 63 := by
    rw [Int32.toBitVec_and, BitVec.toNat_and]
    exact Nat.and_le_right
  refine ⟨(x &&& 63).toBitVec.toNat, ?_⟩
  show (x &&& 63).toBitVec.toInt = _
  rw [BitVec.toInt_eq_toNat_of_lt (by omega)]
theorem lw_sw : decode code 33 = .ok (.tableswitch 1077 0 39 #[175, 218, 251, 284, 307, 340, 403, 426, 439, 452, 465, 478, 491, 504, 527, 550, 573, 606, 619, 632, 655, 678, 691, 704, 718, 731, 754, 777, 790, 823, 836, 849, 872, 906, 929, 962, 995, 1018, 1041, 1064], 175) := by decide +kernel
set_option maxRecDepth 20000 in
theorem lw_head {p : Program} {l : Launch} {e : Env} {s : State} {m : MethodId} {below : List Frame} {meth : Method} {c : Code} {b L : Nat} {xs : Nat → Int32} {w : g_W} {H : Heap} {locs : List Loc} {cells slots i : Nat} {lsA : Array Slot} {σ : Sg} (C : lw_C p s m c b L xs w) (hret : meth.sig.returnType = ret) (hlocks : meth.locks = false) (hL : L ≤ 3072) (hA : ∀ q, wA w q → s.heap.size ≤ q) (hI : Inv σ σ) (hR : g_Rep w σ H) (hS : va_S (wA w) s.heap H locs) (hwf : g_wf w σ)
    (hlv : lv_has lsA 4 [(3, .int (nI (6 * i))), (2, .ref (wr w 10 0)), (1, .ref (wr w 9 0)), (0, .ref b)]) (hi : 6 * i ≤ 6000) (hc : cells + 7 ≤ 600000) (hs : slots + 600 ≤ 7302250)
    (nxt : 6 * i + 6 ≤ L → ∀ (σ2 : Sg) (H1 : Heap) (locs1 : List Loc) (ls1 : Array Slot), Inv σ2 σ2 → g_Rep w σ2 H1 → va_S (wA w) s.heap H1 locs1 → g_wf w σ2 → lv_has ls1 4 [(3, .int (nI (6 * (i + 1)))), (2, .ref (wr w 10 0)), (1, .ref (wr w 9 0)), (0, .ref b)] →
      W p l e room_1 s m #[Value.ref b] below meth c H1 locs1 (cells + 7) (slots + 600) (lw_Z below #[Value.ref b] s) (F0 m 18 ls1 [])) :
    W p l e room_1 s m #[Value.ref b] below meth c H locs cells slots (lw_Z below #[Value.ref b] s) (F0 m 18 lsA []) := by
  have C0 := C
  obtain ⟨c1, c2, c3, c6, c7, c8, c9, ck, c14, cX, cb, cA⟩ := C0
  have t6 : (nI L - 6).toInt = (L : Int) - 6 := by
    rw [ti_sub (by rw [nI_ti (by omega), li_6]; omega) (by rw [nI_ti (by omega), li_6]; omega), nI_ti (by omega), li_6]
  have t3 : (nI (6 * i)).toInt = ((6 * i : Nat) : Int) := nI_ti (by omega)
  refine lv_iload_n (k := 3) c1 c2 (by decide +kernel) rfl (lv_at hlv 0 rfl) ?_
  refine lv_aload_n (k := 0) c1 c2 (by decide +kernel) rfl (lv_at hlv 3 rfl) ?_
  refine va_slen c1 c2 cX cb cA hS (by decide +kernel) ?_
  refine lv_bipush (n := 6) (v := 6) c1 c2 (by decide +kernel) (by decide +kernel) ?_
  refine lv_isub c1 c2 (by decide +kernel) ?_
  refine lv_icmp_gt (off := 1092) (tgt := 1116) c1 c2 (by decide +kernel) (by decide) (fun q => ?_) (fun q => ?_)
  · refine lv_iconst (n := 1) (v := 1) c1 c2 (by decide +kernel) (by decide +kernel) ?_
    refine va_forget (fun z hz => hA _ (hS.2.2 z hz)) ?_
    refine W.widen (k := 600000) (n := 7302250) (by omega) (by omega) ?_
    exact lw_ret c1 c2 hret hlocks (by decide +kernel)
  · have hlt : 6 * i + 6 ≤ L := by
      have q' : ¬ nI L - 6 < nI (6 * i) := q
      rw [ti_lt, t6, t3] at q'
      omega
    have ad : ∀ k : Nat, nI (6 * i) + nI k = nI (6 * i + k) := fun k => nI_add _ _
    have hin : ∀ k : Nat, k ≤ 5 → vp_in (nI (6 * i) + nI k) L := fun k hk => by rw [ad]; exact vp_in_nI (by omega) (by omega)
    have hx : lw_ix (nI (6 * i)) L := ⟨hin 1 (by decide), hin 2 (by decide), hin 3 (by decide), hin 4 (by decide), hin 5 (by decide)⟩
    have kk : ∀ (σ2 : Sg) (H1 : Heap) (locs1 : List Loc), Inv σ2 σ2 → g_Rep w σ2 H1 → va_S (wA w) s.heap H1 locs1 → g_wf w σ2 → W p l e room_1 s m #[Value.ref b] below meth c H1 locs1 (cells + 7) (slots + 600) (lw_Z below #[Value.ref b] s) (F0 m 1110 lsA []) := by
      intro σ2 H1 locs1 I2 R2 S2 wf2
      refine lv_iinc (i := 3) (n := 6) (v := nI (6 * (i + 1))) (lv' := [(3, .int (nI (6 * (i + 1)))), (2, .ref (wr w 10 0)), (1, .ref (wr w 9 0)), (0, .ref b)]) c1 c2 (by decide +kernel) hlv (k := 0) rfl (ad 6) (by decide) rfl (fun ls1 hlv1 => ?_)
      refine lv_goto (off := -1095) (tgt := 18) c1 c2 (by decide +kernel) (by decide) ?_
      exact nxt hlt σ2 _ _ _ I2 R2 S2 wf2 hlv1
    refine lv_aload_n (k := 0) c1 c2 (by decide +kernel) rfl (lv_at hlv 3 rfl) ?_
    refine lv_iload_n (k := 3) c1 c2 (by decide +kernel) rfl (lv_at hlv 0 rfl) ?_
    refine va_sld c1 c2 cX cb cA hS (vp_in_nI (by omega) (by omega)) (by decide +kernel) ?_
    refine lv_bipush (n := 63) (v := 63) c1 c2 (by decide +kernel) (by decide +kernel) ?_
    refine lv_iand c1 c2 (by decide +kernel) ?_
    refine W.eq (g2 := F0 m 33 lsA [.int (xs (nI (6 * i)).toNatClampNeg &&& 63)]) rfl ?_
    generalize xs (nI (6 * i)).toNatClampNeg = y
    obtain ⟨j, hj⟩ := lw_63 y
    by_cases h39 : j ≤ 39
    · have hcs : j = 0 ∨ j = 1 ∨ j = 2 ∨ j = 3 ∨ j = 4 ∨ j = 5 ∨ j = 6 ∨ j = 7 ∨ j = 8 ∨ j = 9 ∨ j = 10 ∨ j = 11 ∨ j = 12 ∨ j = 13 ∨ j = 14 ∨ j = 15 ∨ j = 16 ∨ j = 17 ∨ j = 18 ∨ j = 19 ∨ j = 20 ∨ j = 21 ∨ j = 22 ∨ j = 23 ∨ j = 24 ∨ j = 25 ∨ j = 26 ∨ j = 27 ∨ j = 28 ∨ j = 29 ∨ j = 30 ∨ j = 31 ∨ j = 32 ∨ j = 33 ∨ j = 34 ∨ j = 35 ∨ j = 36 ∨ j = 37 ∨ j = 38 ∨ j = 39 := by omega
      rcases hcs with rfl | rfl | rfl | rfl | rfl | rfl | rfl | rfl | rfl | rfl | rfl | rfl | rfl | rfl | rfl | rfl | rfl | rfl | rfl | rfl | rfl | rfl | rfl | rfl | rfl | rfl | rfl | rfl | rfl | rfl | rfl | rfl | rfl | rfl | rfl | rfl | rfl | rfl | rfl | rfl
      · refine lv_tableIn (off := 175) (tgt := 208) c1 c2 lw_sw (by rw [hj]; decide) (by rw [hj]; decide) (by rw [hj]; rfl) (by decide) ?_
        exact lc_0 C hI hR hS hwf hlv hx hc hs kk
      · refine lv_tableIn (off := 218) (tgt := 251) c1 c2 lw_sw (by rw [hj]; decide) (by rw [hj]; decide) (by rw [hj]; rfl) (by decide) ?_
        exact lc_1 C hI hR hS hwf hlv hx hc hs kk
      · refine lv_tableIn (off := 251) (tgt := 284) c1 c2 lw_sw (by rw [hj]; decide) (by rw [hj]; decide) (by rw [hj]; rfl) (by decide) ?_
        exact lc_2 C hI hR hS hwf hlv hx hc hs kk
      · refine lv_tableIn (off := 284) (tgt := 317) c1 c2 lw_sw (by rw [hj]; decide) (by rw [hj]; decide) (by rw [hj]; rfl) (by decide) ?_
        exact lc_3 C hI hR hS hwf hlv hx hc hs kk
      · refine lv_tableIn (off := 307) (tgt := 340) c1 c2 lw_sw (by rw [hj]; decide) (by rw [hj]; decide) (by rw [hj]; rfl) (by decide) ?_
        exact lc_4 C hI hR hS hwf hlv hx hc hs kk
      · refine lv_tableIn (off := 340) (tgt := 373) c1 c2 lw_sw (by rw [hj]; decide) (by rw [hj]; decide) (by rw [hj]; rfl) (by decide) ?_
        exact lc_5 C hI hR hS hwf hlv hx hc hs kk
      · refine lv_tableIn (off := 403) (tgt := 436) c1 c2 lw_sw (by rw [hj]; decide) (by rw [hj]; decide) (by rw [hj]; rfl) (by decide) ?_
        exact lc_6 C hI hR hS hwf hlv hx hc hs kk
      · refine lv_tableIn (off := 426) (tgt := 459) c1 c2 lw_sw (by rw [hj]; decide) (by rw [hj]; decide) (by rw [hj]; rfl) (by decide) ?_
        exact lc_7 C hI hR hS hwf hlv hx hc hs kk
      · refine lv_tableIn (off := 439) (tgt := 472) c1 c2 lw_sw (by rw [hj]; decide) (by rw [hj]; decide) (by rw [hj]; rfl) (by decide) ?_
        exact lc_8 C hI hR hS hwf hlv hx hc hs kk
      · refine lv_tableIn (off := 452) (tgt := 485) c1 c2 lw_sw (by rw [hj]; decide) (by rw [hj]; decide) (by rw [hj]; rfl) (by decide) ?_
        exact lc_9 C hI hR hS hwf hlv hx hc hs kk
      · refine lv_tableIn (off := 465) (tgt := 498) c1 c2 lw_sw (by rw [hj]; decide) (by rw [hj]; decide) (by rw [hj]; rfl) (by decide) ?_
        exact lc_10 C hI hR hS hwf hlv hx hc hs kk
      · refine lv_tableIn (off := 478) (tgt := 511) c1 c2 lw_sw (by rw [hj]; decide) (by rw [hj]; decide) (by rw [hj]; rfl) (by decide) ?_
        exact lc_11 C hI hR hS hwf hlv hx hc hs kk
      · refine lv_tableIn (off := 491) (tgt := 524) c1 c2 lw_sw (by rw [hj]; decide) (by rw [hj]; decide) (by rw [hj]; rfl) (by decide) ?_
        exact lc_12 C hI hR hS hwf hlv hx hc hs kk
      · refine lv_tableIn (off := 504) (tgt := 537) c1 c2 lw_sw (by rw [hj]; decide) (by rw [hj]; decide) (by rw [hj]; rfl) (by decide) ?_
        exact lc_13 C hI hR hS hwf hlv hx hc hs kk
      · refine lv_tableIn (off := 527) (tgt := 560) c1 c2 lw_sw (by rw [hj]; decide) (by rw [hj]; decide) (by rw [hj]; rfl) (by decide) ?_
        exact lc_14 C hI hR hS hwf hlv hx hc hs kk
      · refine lv_tableIn (off := 550) (tgt := 583) c1 c2 lw_sw (by rw [hj]; decide) (by rw [hj]; decide) (by rw [hj]; rfl) (by decide) ?_
        exact lc_15 C hI hR hS hwf hlv hx hc hs kk
      · refine lv_tableIn (off := 573) (tgt := 606) c1 c2 lw_sw (by rw [hj]; decide) (by rw [hj]; decide) (by rw [hj]; rfl) (by decide) ?_
        exact lc_16 C hI hR hS hwf hlv hx hc hs kk
      · refine lv_tableIn (off := 606) (tgt := 639) c1 c2 lw_sw (by rw [hj]; decide) (by rw [hj]; decide) (by rw [hj]; rfl) (by decide) ?_
        exact lc_17 C hI hR hS hwf hlv hx hc hs kk
      · refine lv_tableIn (off := 619) (tgt := 652) c1 c2 lw_sw (by rw [hj]; decide) (by rw [hj]; decide) (by rw [hj]; rfl) (by decide) ?_
        exact lc_18 C hI hR hS hwf hlv hx hc hs kk
      · refine lv_tableIn (off := 632) (tgt := 665) c1 c2 lw_sw (by rw [hj]; decide) (by rw [hj]; decide) (by rw [hj]; rfl) (by decide) ?_
        exact lc_19 C hI hR hS hwf hlv hx hc hs kk
      · refine lv_tableIn (off := 655) (tgt := 688) c1 c2 lw_sw (by rw [hj]; decide) (by rw [hj]; decide) (by rw [hj]; rfl) (by decide) ?_
        exact lc_20 C hI hR hS hwf hlv hx hc hs kk
      · refine lv_tableIn (off := 678) (tgt := 711) c1 c2 lw_sw (by rw [hj]; decide) (by rw [hj]; decide) (by rw [hj]; rfl) (by decide) ?_
        exact lc_21 C hI hR hS hwf hlv hx hc hs kk
      · refine lv_tableIn (off := 691) (tgt := 724) c1 c2 lw_sw (by rw [hj]; decide) (by rw [hj]; decide) (by rw [hj]; rfl) (by decide) ?_
        exact lc_22 C hI hR hS hwf hlv hx hc hs kk
      · refine lv_tableIn (off := 704) (tgt := 737) c1 c2 lw_sw (by rw [hj]; decide) (by rw [hj]; decide) (by rw [hj]; rfl) (by decide) ?_
        exact lc_23 C hI hR hS hwf hlv hx hc hs kk
      · refine lv_tableIn (off := 718) (tgt := 751) c1 c2 lw_sw (by rw [hj]; decide) (by rw [hj]; decide) (by rw [hj]; rfl) (by decide) ?_
        exact lc_24 C hI hR hS hwf hlv hx hc hs kk
      · refine lv_tableIn (off := 731) (tgt := 764) c1 c2 lw_sw (by rw [hj]; decide) (by rw [hj]; decide) (by rw [hj]; rfl) (by decide) ?_
        exact lc_25 C hI hR hS hwf hlv hx hc hs kk
      · refine lv_tableIn (off := 754) (tgt := 787) c1 c2 lw_sw (by rw [hj]; decide) (by rw [hj]; decide) (by rw [hj]; rfl) (by decide) ?_
        exact lc_26 C hI hR hS hwf hlv hx hc hs kk
      · refine lv_tableIn (off := 777) (tgt := 810) c1 c2 lw_sw (by rw [hj]; decide) (by rw [hj]; decide) (by rw [hj]; rfl) (by decide) ?_
        exact lc_27 C hI hR hS hwf hlv hx hc hs kk
      · refine lv_tableIn (off := 790) (tgt := 823) c1 c2 lw_sw (by rw [hj]; decide) (by rw [hj]; decide) (by rw [hj]; rfl) (by decide) ?_
        exact lc_28 C hI hR hS hwf hlv hx hc hs kk
      · refine lv_tableIn (off := 823) (tgt := 856) c1 c2 lw_sw (by rw [hj]; decide) (by rw [hj]; decide) (by rw [hj]; rfl) (by decide) ?_
        exact lc_29 C hI hR hS hwf hlv hx hc hs kk
      · refine lv_tableIn (off := 836) (tgt := 869) c1 c2 lw_sw (by rw [hj]; decide) (by rw [hj]; decide) (by rw [hj]; rfl) (by decide) ?_
        exact lc_30 C hI hR hS hwf hlv hx hc hs kk
      · refine lv_tableIn (off := 849) (tgt := 882) c1 c2 lw_sw (by rw [hj]; decide) (by rw [hj]; decide) (by rw [hj]; rfl) (by decide) ?_
        exact lc_31 C hI hR hS hwf hlv hx hc hs kk
      · refine lv_tableIn (off := 872) (tgt := 905) c1 c2 lw_sw (by rw [hj]; decide) (by rw [hj]; decide) (by rw [hj]; rfl) (by decide) ?_
        exact lc_32 C hI hR hS hwf hlv hx hc hs kk
      · refine lv_tableIn (off := 906) (tgt := 939) c1 c2 lw_sw (by rw [hj]; decide) (by rw [hj]; decide) (by rw [hj]; rfl) (by decide) ?_
        exact lc_33 C hI hR hS hwf hlv hx hc hs kk
      · refine lv_tableIn (off := 929) (tgt := 962) c1 c2 lw_sw (by rw [hj]; decide) (by rw [hj]; decide) (by rw [hj]; rfl) (by decide) ?_
        exact lc_34 C hI hR hS hwf hlv hx hc hs kk
      · refine lv_tableIn (off := 962) (tgt := 995) c1 c2 lw_sw (by rw [hj]; decide) (by rw [hj]; decide) (by rw [hj]; rfl) (by decide) ?_
        exact lc_35 C hI hR hS hwf hlv hx hc hs kk
      · refine lv_tableIn (off := 995) (tgt := 1028) c1 c2 lw_sw (by rw [hj]; decide) (by rw [hj]; decide) (by rw [hj]; rfl) (by decide) ?_
        exact lc_36 C hI hR hS hwf hlv hx hc hs kk
      · refine lv_tableIn (off := 1018) (tgt := 1051) c1 c2 lw_sw (by rw [hj]; decide) (by rw [hj]; decide) (by rw [hj]; rfl) (by decide) ?_
        exact lc_37 C hI hR hS hwf hlv hx hc hs kk
      · refine lv_tableIn (off := 1041) (tgt := 1074) c1 c2 lw_sw (by rw [hj]; decide) (by rw [hj]; decide) (by rw [hj]; rfl) (by decide) ?_
        exact lc_38 C hI hR hS hwf hlv hx hc hs kk
      · refine lv_tableIn (off := 1064) (tgt := 1097) c1 c2 lw_sw (by rw [hj]; decide) (by rw [hj]; decide) (by rw [hj]; rfl) (by decide) ?_
        exact lc_39 C hI hR hS hwf hlv hx hc hs kk
    · refine lv_tableOut (tgt := 1110) c1 c2 lw_sw (Or.inr (by rw [hj]; omega)) (by decide) ?_
      refine W.widen (k := cells + 7) (n := slots + 600) (by omega) (by omega) ?_
      exact kk σ _ _ hI hR hS hwf
/-- from the loop's head on -/
theorem lw_loop {p : Program} {l : Launch} {e : Env} {s : State} {m : MethodId} {below : List Frame} {meth : Method} {c : Code} {b L : Nat} {xs : Nat → Int32} {w : g_W} (C : lw_C p s m c b L xs w) (hret : meth.sig.returnType = ret) (hlocks : meth.locks = false) (hL : L ≤ 3072) (hA : ∀ q, wA w q → s.heap.size ≤ q) :
    ∀ (n i : Nat) (σ : Sg) (H : Heap) (locs : List Loc) (lsA : Array Slot), 6 * i ≤ L → L < 6 * i + 6 * n → Inv σ σ → g_Rep w σ H → va_S (wA w) s.heap H locs → g_wf w σ → lv_has lsA 4 [(3, .int (nI (6 * i))), (2, .ref (wr w 10 0)), (1, .ref (wr w 9 0)), (0, .ref b)] →
      W p l e room_1 s m #[Value.ref b] below meth c H locs (1000 + 7 * i) (100000 + 600 * i) (lw_Z below #[Value.ref b] s) (F0 m 18 lsA []) := by
  intro n
  induction n with
  | zero => intro i σ H locs lsA h1 h2; omega
  | succ n ih =>
    intro i σ H locs lsA h1 h2 hI hR hS hwf hlv
    refine lw_head C hret hlocks hL hA hI hR hS hwf hlv (by omega) (by omega) (by omega) (fun hlt σ2 H1 locs1 ls1 I2 R2 S2 wf2 hlv1 => ?_)
    have K := ih (i + 1) σ2 H1 locs1 ls1 (by omega) (by omega) I2 R2 S2 wf2 hlv1
    rw [show 1000 + 7 * (i + 1) = 1000 + 7 * i + 7 by omega, show 100000 + 600 * (i + 1) = 100000 + 600 * i + 600 by omega] at K
    exact K
