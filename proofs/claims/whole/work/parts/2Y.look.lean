/-- line j is as was seen, as far as k things go -/
def asK (f : Nat → Int32) (C : List Cla) (n j k : Nat) : Prop := ∀ i, i < k → fv f C n (f (39 + 2 * i)).toInt.toNat j = f (40 + 2 * i)
noncomputable def setB (P : Nat → Prop) : Nat → Int32
  | 0 => 0
  | j + 1 => @ite _ (P j) (Classical.propDecidable _) (setB P j ||| (1 <<< (nI j &&& 31))) (setB P j)
theorem setB_s {P : Nat → Prop} {j : Nat} : setB P (j + 1) = @ite _ (P j) (Classical.propDecidable _) (setB P j ||| (1 <<< (nI j &&& 31))) (setB P j) := rfl
theorem q_isAsSeen {s : Sg} {g n : Nat} {f : Nat → Int32} {C : List Cla} (M : MW f) (X : GX s g f) (T : Told s f C n) (n12 : n ≤ 12) (K : rI s 78 0 0 = 1 ∧ rI s 78 0 1 = 3 ∧ rI s 78 0 2 = 4 ∧ rI s 78 0 3 = 2) {b : Int32} {j : Nat} (hb : b.toInt = j) (hj : j < (EL f (2 * n)).length) {m : Nat} (hm : (f 55).toInt = m) :
    x7_isAsSeen s g b = some (s, bI (asK f C n j m)) := by
  have m6 : m ≤ 6 := by have := M.2.2.2.2.1.1.2; omega
  have e10 : rI s 1 g 10 = f 55 := X.2.2.2.1.1
  have key : ∀ (d k : Nat) (l : Int32) (fuel : Nat), k + d = m → l.toInt = k → d < fuel → asK f C n j k → x7_isAsSeen_b2 fuel s g b l = some (s, bI (asK f C n j m)) := by
    intro d
    induction d with
    | zero =>
      intro k l fuel h1 h2 h3 h4
      obtain ⟨fuel, rfl⟩ : ∃ x, fuel = x + 1 := ⟨fuel - 1, by omega⟩
      show x7_isAsSeen_b2_G _ _ s g b l = _
      unfold x7_isAsSeen_b2_G
      rw [gif_f (by rw [ti_lt, h2, e10, hm]; omega), gdB1]
      exact lf1 (by rw [show m = k by omega]; exact h4)
    | succ d ih =>
      intro k l fuel h1 h2 h3 h4
      obtain ⟨fuel, rfl⟩ : ∃ x, fuel = x + 1 := ⟨fuel - 1, by omega⟩
      show x7_isAsSeen_b2_G _ _ s g b l = _
      unfold x7_isAsSeen_b2_G
      have hk : (k : Int) < (f 55).toInt := by omega
      obtain ⟨y1, y2⟩ := X.2.2.2.1.2 k hk
      have r := M.2.2.2.2.1.2 k hk
      have il : ix l = k := by rw [ix_eq, h2]; omega
      have bl : inb l 6 := inb_iff.mpr (by omega)
      rw [gif_t (by rw [ti_lt, h2, e10, hm]; omega), gif_t (by rw [ti_lt, h2, li_6]; omega), gd_t bl, il, y1, q_tellFact T n12 K (fa := (f (39 + 2 * k)).toInt.toNat) (by omega) (by omega) hb hj]
      simp only [Option.bind_some, gdB0]
      rw [gd_t bl, y2]
      refine gif_eq (fun c => ih (k + 1) (l + 1) fuel (by omega) (by rw [ti_add (by rw [h2, li_1]; omega) (by rw [h2, li_1]; omega), h2, li_1]; omega) (by omega) (fun i hi => ?_)) (fun c => lf0 (fun x => c (x k (by omega))))
      by_cases q : i = k
      · subst q; exact c
      · exact h4 i (by omega)
  unfold x7_isAsSeen x7_isAsSeen_G
  exact key m 0 0 FU (by omega) rfl (by show _ < 20000; omega) (fun i hi => by omega)
theorem q_isSo {s : Sg} {n : Nat} {f : Nat → Int32} {C : List Cla} (M : MW f) (h : ∀ c, rI s 43 0 c = f c) {len : Nat} (Fc : FctR s f C n len) (l24 : len ≤ 24) {b : Int32} {j : Nat} (hb : b.toInt = j) (hj : j < len) {m : Nat} (hm : (f 55).toInt = m) :
    m_isSo s b = some (s, bI (asK f C n j m)) := by
  have m6 : m ≤ 6 := by have := M.2.2.2.2.1.1.2; omega
  have t4 : (4 * b).toInt = 4 * j := by simp (disch := omega) only [Int32.toInt_add, Int32.toInt_sub, Int32.toInt_mul, Int32.toInt_neg, bm32, li_0, li_1, li_2, li_3, li_4, li_5, li_6, li_7, li_8, li_9, li_10, li_11, li_12, li_13, li_14, li_15, li_16, li_17, li_18, li_19, li_20, li_21, li_22, li_23, li_24, li_25, li_26, li_27, li_28, li_29, li_30, li_31, li_32, li_33, li_34, li_35, li_36, li_37, li_38, li_39, li_40, li_41, li_42, li_43, li_44, li_45, li_46, li_47, li_48, li_49, li_50, li_51, li_52, li_53, li_54, li_55, li_56, li_57, li_58, li_59, li_60, li_61, li_62, li_63, li_64, li_65, li_66, li_67, li_68, li_69, li_70, li_71, li_72, li_73, li_74, li_75, li_76, li_77, li_78, li_91, li_93, li_96, li_97, li_99, li_100, li_122, li_138, li_255, li_256, li_400, li_401, li_625, li_800, li_999, li_1000, li_1001, li_1103, li_2000, li_2037, li_2038, li_2039, li_2040, li_2041, li_2042, li_2043, li_2044, li_2045, li_2046, li_2047, li_2048, li_2049, li_2050, li_2051, li_2052, li_2053, li_2054, li_2055, li_2056, li_2057, li_2058, li_2059, li_2060, li_2061, li_2062, li_2091, li_2093, li_2400, li_2865, li_3000, li_3002, li_3003, li_3005, li_3006, li_3007, li_3008, li_3009, li_3010, li_3011, li_3012, li_3013, li_3020, li_3024, li_3025, li_3026, li_3999, li_4000, li_4095, li_4096, li_5665, li_11330, li_12345, li_15625, li_1000000, li_1000003, li_100000000, li_1000000000, ti_lt, ti_eq, inb_iff, ix_eq, hb]
  have no : ∀ (d k : Nat) (l : Int32) (fuel : Nat), k + d = m → l.toInt = k → d < fuel → m_isSo_b4 fuel s b 0 l = some (s, 0) := by
    intro d
    induction d with
    | zero =>
      intro k l fuel h1 h2 h3
      obtain ⟨fuel, rfl⟩ : ∃ x, fuel = x + 1 := ⟨fuel - 1, by omega⟩
      show m_isSo_b4_G _ s b 0 l = _
      unfold m_isSo_b4_G
      rw [gd_t k55.1, k55.2, gif_f (by rw [ti_lt, h2, h, hm]; omega), gdB0]
    | succ d ih =>
      intro k l fuel h1 h2 h3
      obtain ⟨fuel, rfl⟩ : ∃ x, fuel = x + 1 := ⟨fuel - 1, by omega⟩
      show m_isSo_b4_G _ s b 0 l = _
      unfold m_isSo_b4_G
      rw [gd_t k55.1, k55.2, gif_t (by rw [ti_lt, h2, h, hm]; omega), gif_t rfl]
      exact ih (k + 1) (l + 1) fuel (by omega) (by rw [ti_add (by rw [h2, li_1]; omega) (by rw [h2, li_1]; omega), h2, li_1]; omega) (by omega)
  have key : ∀ (d k : Nat) (l : Int32) (fuel : Nat), k + d = m → l.toInt = k → d < fuel → asK f C n j k → m_isSo_b4 fuel s b 1 l = some (s, bI (asK f C n j m)) := by
    intro d
    induction d with
    | zero =>
      intro k l fuel h1 h2 h3 h4
      obtain ⟨fuel, rfl⟩ : ∃ x, fuel = x + 1 := ⟨fuel - 1, by omega⟩
      show m_isSo_b4_G _ s b 1 l = _
      unfold m_isSo_b4_G
      rw [gd_t k55.1, k55.2, gif_f (by rw [ti_lt, h2, h, hm]; omega), gdB1]
      exact lf1 (by rw [show m = k by omega]; exact h4)
    | succ d ih =>
      intro k l fuel h1 h2 h3 h4
      obtain ⟨fuel, rfl⟩ : ∃ x, fuel = x + 1 := ⟨fuel - 1, by omega⟩
      show m_isSo_b4_G _ s b 1 l = _
      unfold m_isSo_b4_G
      have hk : (k : Int) < (f 55).toInt := by omega
      have r := M.2.2.2.2.1.2 k hk
      have tp : (l + 1).toInt = k + 1 := by rw [ti_add (by rw [h2, li_1]; omega) (by rw [h2, li_1]; omega), h2, li_1]
      have t9 : (39 + 2 * l).toInt = 39 + 2 * k := by simp (disch := omega) only [Int32.toInt_add, Int32.toInt_sub, Int32.toInt_mul, Int32.toInt_neg, bm32, li_0, li_1, li_2, li_3, li_4, li_5, li_6, li_7, li_8, li_9, li_10, li_11, li_12, li_13, li_14, li_15, li_16, li_17, li_18, li_19, li_20, li_21, li_22, li_23, li_24, li_25, li_26, li_27, li_28, li_29, li_30, li_31, li_32, li_33, li_34, li_35, li_36, li_37, li_38, li_39, li_40, li_41, li_42, li_43, li_44, li_45, li_46, li_47, li_48, li_49, li_50, li_51, li_52, li_53, li_54, li_55, li_56, li_57, li_58, li_59, li_60, li_61, li_62, li_63, li_64, li_65, li_66, li_67, li_68, li_69, li_70, li_71, li_72, li_73, li_74, li_75, li_76, li_77, li_78, li_91, li_93, li_96, li_97, li_99, li_100, li_122, li_138, li_255, li_256, li_400, li_401, li_625, li_800, li_999, li_1000, li_1001, li_1103, li_2000, li_2037, li_2038, li_2039, li_2040, li_2041, li_2042, li_2043, li_2044, li_2045, li_2046, li_2047, li_2048, li_2049, li_2050, li_2051, li_2052, li_2053, li_2054, li_2055, li_2056, li_2057, li_2058, li_2059, li_2060, li_2061, li_2062, li_2091, li_2093, li_2400, li_2865, li_3000, li_3002, li_3003, li_3005, li_3006, li_3007, li_3008, li_3009, li_3010, li_3011, li_3012, li_3013, li_3020, li_3024, li_3025, li_3026, li_3999, li_4000, li_4095, li_4096, li_5665, li_11330, li_12345, li_15625, li_1000000, li_1000003, li_100000000, li_1000000000, ti_lt, ti_eq, inb_iff, ix_eq, h2]
      have t0 : (39 + 2 * l + 1).toInt = 40 + 2 * k := by rw [ti_add (by rw [t9, li_1]; omega) (by rw [t9, li_1]; omega), t9, li_1]; omega
      have i9 : ix (39 + 2 * l) = 39 + 2 * k := by rw [ix_eq, t9]; omega
      have i0 : ix (39 + 2 * l + 1) = 40 + 2 * k := by rw [ix_eq, t0]; omega
      have ts : (4 * b + f (39 + 2 * k)).toInt = 4 * j + (f (39 + 2 * k)).toInt := by rw [ti_add (by rw [t4]; omega) (by rw [t4]; omega), t4]
      rw [gd_t k55.1, k55.2, gif_t (by rw [ti_lt, h2, h, hm]; omega), gif_f (by decide), gd_t (inb_iff.mpr (by rw [t9]; omega)), i9, h, gd_t (inb_iff.mpr (by rw [ts]; omega)), gd_t (inb_iff.mpr (by rw [t0]; omega)), i0, h, show ix (4 * b + f (39 + 2 * k)) = 4 * j + (f (39 + 2 * k)).toInt.toNat by rw [ix_eq, ts]; omega, Fc j _ hj (by omega)]
      refine gif_eq (fun c => ih (k + 1) (l + 1) fuel (by omega) (by rw [tp]; omega) (by omega) (fun i hi => ?_)) (fun c => ?_)
      · by_cases q : i = k
        · subst q; exact c
        · exact h4 i (by omega)
      · rw [no d (k + 1) (l + 1) fuel (by omega) (by rw [tp]; omega) (by omega)]
        exact lf0 (fun x => c (x k (by omega)))
  unfold m_isSo m_isSo_G
  exact key m 0 0 FU (by omega) rfl (by show _ < 20000; omega) (fun i hi => by omega)
theorem q_linesAsSeen {s : Sg} {g n : Nat} {f : Nat → Int32} {C : List Cla} (M : MW f) (X : GX s g f) (T : Told s f C n) (n12 : n ≤ 12) (K : rI s 78 0 0 = 1 ∧ rI s 78 0 1 = 3 ∧ rI s 78 0 2 = 4 ∧ rI s 78 0 3 = 2) {m : Nat} (hm : (f 55).toInt = m) :
    x7_linesAsSeen s g = some (s, setB (fun j => asK f C n j m) (EL f (2 * n)).length) := by
  have ll : (EL f (2 * n)).length ≤ 2 * n := EL_len
  have key : ∀ (d j : Nat) (l : Int32) (fuel : Nat), j + d = (EL f (2 * n)).length → l.toInt = j → d < fuel → x7_linesAsSeen_b4 fuel s g (setB (fun j => asK f C n j m) j) l = some (s, setB (fun j => asK f C n j m) (EL f (2 * n)).length) := by
    intro d
    induction d with
    | zero =>
      intro j l fuel h1 h2 h3
      obtain ⟨fuel, rfl⟩ : ∃ x, fuel = x + 1 := ⟨fuel - 1, by omega⟩
      show x7_linesAsSeen_b4_G _ _ s g _ l = _
      unfold x7_linesAsSeen_b4_G
      rw [gif_f (by rw [ti_lt, h2, T.1]; omega), show j = (EL f (2 * n)).length by omega]
    | succ d ih =>
      intro j l fuel h1 h2 h3
      obtain ⟨fuel, rfl⟩ : ∃ x, fuel = x + 1 := ⟨fuel - 1, by omega⟩
      show x7_linesAsSeen_b4_G _ _ s g _ l = _
      unfold x7_linesAsSeen_b4_G
      have el : l = nI j := by rw [ti_eq, h2, nI_ti (by omega)]
      rw [gif_t (by rw [ti_lt, h2, T.1]; omega), q_isAsSeen M X T n12 K h2 (by omega) hm]
      simp only [Option.bind_some, gdB0, gdB1, gdbI, gifbI]
      have go := ih (j + 1) (l + 1) fuel (by omega) (by rw [ti_add (by rw [h2, li_1]; omega) (by rw [h2, li_1]; omega), h2, li_1]; omega) (by omega)
      rw [setB_s] at go
      refine gif_eq (fun c => ?_) (fun c => ?_)
      · rw [if_pos c] at go; rw [el] at go ⊢; exact go
      · rw [if_neg c] at go; exact go
  unfold x7_linesAsSeen x7_linesAsSeen_G
  exact key (EL f (2 * n)).length 0 0 FU (by omega) rfl (by show _ < 20000; omega)
theorem q_canBe_loop {s : Sg} {n : Nat} {f : Nat → Int32} {C : List Cla} (M : MW f) (h : MC s f C n) (n12 : n ≤ 12) (Fc : FctR s f C n (EL f (2 * n)).length) {m : Nat} (hm : (f 55).toInt = m) :
    m_canBe_b8 FU s 0 0 = some (s, setB (fun j => asK f C n j m) (EL f (2 * n)).length) := by
  have ll : (EL f (2 * n)).length ≤ 2 * n := EL_len
  have tS := h.2.2.1.1
  have key : ∀ (d j : Nat) (l : Int32) (fuel : Nat), j + d = (EL f (2 * n)).length → l.toInt = j → d < fuel → m_canBe_b8 fuel s (setB (fun j => asK f C n j m) j) l = some (s, setB (fun j => asK f C n j m) (EL f (2 * n)).length) := by
    intro d
    induction d with
    | zero =>
      intro j l fuel h1 h2 h3
      obtain ⟨fuel, rfl⟩ : ∃ x, fuel = x + 1 := ⟨fuel - 1, by omega⟩
      show m_canBe_b8_G _ _ s _ l = _
      unfold m_canBe_b8_G
      rw [gif_f (by rw [ti_lt, h2, tS]; omega), show j = (EL f (2 * n)).length by omega]
    | succ d ih =>
      intro j l fuel h1 h2 h3
      obtain ⟨fuel, rfl⟩ : ∃ x, fuel = x + 1 := ⟨fuel - 1, by omega⟩
      show m_canBe_b8_G _ _ s _ l = _
      unfold m_canBe_b8_G
      have el : l = nI j := by rw [ti_eq, h2, nI_ti (by omega)]
      rw [gif_t (by rw [ti_lt, h2, tS]; omega), q_isSo M h.1 Fc (by omega) h2 (by omega) hm]
      simp only [Option.bind_some, gdB0, gdB1, gdbI, gifbI]
      have go := ih (j + 1) (l + 1) fuel (by omega) (by rw [ti_add (by rw [h2, li_1]; omega) (by rw [h2, li_1]; omega), h2, li_1]; omega) (by omega)
      rw [setB_s] at go
      refine gif_eq (fun c => ?_) (fun c => ?_)
      · rw [if_pos c] at go; rw [el] at go ⊢; exact go
      · rw [if_neg c] at go; rw [Int32.or_zero]; exact go
  exact key (EL f (2 * n)).length 0 0 FU (by omega) rfl (by show _ < 20000; omega)
/-- both sides, ready to tell what was seen -/
theorem see_both {sx sm : Sg} (h : Inv sx sm) : ∃ n C m, ∃ s1 m1 : Sg, (rI sm 43 0 54).toInt = (n : Nat) ∧ n ≤ 12 ∧ (rI sm 43 0 55).toInt = (m : Nat) ∧ x7_readSetting sx 0 = some s1 ∧ Told s1 (sm.1 43 0) C n ∧ GX s1 0 (sm.1 43 0) ∧ (rI s1 78 0 0 = 1 ∧ rI s1 78 0 1 = 3 ∧ rI s1 78 0 2 = 4 ∧ rI s1 78 0 3 = 2) ∧
    m_laysFacts sm = some m1 ∧ MC m1 (sm.1 43 0) C n ∧ FctR m1 (sm.1 43 0) C n (EL (sm.1 43 0) (2 * n)).length := by
  obtain ⟨n, C, hn, n12, W, ⟨s1, hs1, T⟩, -⟩ := both_all h.2.1.1 h.2.1.2.1 h.2.1.2.2
  obtain ⟨m1, hm1, p1, p2⟩ := ok_laysFacts h.2.1.1.1 hn h.2.1.2.1 h.2.1.2.2 W
  obtain ⟨m, hm⟩ : ∃ m : Nat, (rI sm 43 0 55).toInt = m := ⟨_, (Int.toNat_of_nonneg h.2.1.1.1.2.2.2.2.1.1.1).symm⟩
  have F := fr_x7_readSetting _ _ _ hs1
  have A : GA s1 0 (sm.1 43 0) := GA_fr F rfl rfl rfl (fun _ _ => rfl) h.2.1.1
  have K := h.2.2.2.2.2.2.2.1
  exact ⟨n, C, m, s1, m1, hn, n12, hm, hs1, T, A.2.1, by rw [F.i 78 0 0 (nh rfl), F.i 78 0 1 (nh rfl), F.i 78 0 2 (nh rfl), F.i 78 0 3 (nh rfl)]; exact K, hm1, p1, p2⟩
theorem c_canBe {sx sm : Sg} (h : Inv sx sm) : Call sx sm (x9_canBe sx) (m_canBe sm) := by
  obtain ⟨n, C, m, s1, m1, hn, n12, hm, hs1, T, X1, K, hm1, p1, p2⟩ := see_both h
  have M := h.2.1.1.1
  have ex : x9_canBe sx = some (s1, setB (fun j => asK (sm.1 43 0) C n j m) (EL (sm.1 43 0) (2 * n)).length) := by
    unfold x9_canBe x9_canBe_G
    rw [hs1]; simp only [Option.bind_some, bindp]
    exact q_linesAsSeen M X1 T n12 K hm
  have em : m_canBe sm = some (m1, setB (fun j => asK (sm.1 43 0) C n j m) (EL (sm.1 43 0) (2 * n)).length) := by
    unfold m_canBe m_canBe_G
    rw [hm1]; simp only [Option.bind_some]
    exact q_canBe_loop M p1 n12 p2 hm
  exact call_scr ex em (fr_x9_canBe _ _ ex) (fr_m_canBe _ _ em) rfl rfl h
/-! the most that are alike -/
noncomputable def alk (v : Nat → Int32) (set : Int32) (i : Nat) : Nat → Int32
  | 0 => 0
  | k + 1 => @ite _ (bt set k = true ∧ v k = v i) (Classical.propDecidable _) (alk v set i k + 1) (alk v set i k)
noncomputable def mal (v : Nat → Int32) (set : Int32) (len : Nat) : Nat → Int32
  | 0 => 0
  | i + 1 => if bt set i = true then g_max (mal v set len i) (alk v set i len) else mal v set len i
theorem alk_s {v : Nat → Int32} {set : Int32} {i k : Nat} : alk v set i (k + 1) = @ite _ (bt set k = true ∧ v k = v i) (Classical.propDecidable _) (alk v set i k + 1) (alk v set i k) := rfl
theorem mal_s {v : Nat → Int32} {set : Int32} {len i : Nat} : mal v set len (i + 1) = if bt set i = true then g_max (mal v set len i) (alk v set i len) else mal v set len i := rfl
theorem alk_r {v : Nat → Int32} {set : Int32} {i : Nat} : ∀ {k : Nat}, k ≤ 24 → 0 ≤ (alk v set i k).toInt ∧ (alk v set i k).toInt ≤ k := by
  intro k
  induction k with
  | zero => intro _; show 0 ≤ (0 : Int32).toInt ∧ (0 : Int32).toInt ≤ ((0 : Nat) : Int); decide
  | succ k ih =>
    intro hk
    have i1 := ih (by omega)
    unfold alk
    split
    · rw [ti_add (by rw [li_1]; omega) (by rw [li_1]; omega), li_1]; omega
    · omega
theorem mal_r {v : Nat → Int32} {set : Int32} {len : Nat} (hl : len ≤ 24) : ∀ {k : Nat}, 0 ≤ (mal v set len k).toInt ∧ (mal v set len k).toInt ≤ 24 := by
  intro k
  induction k with
  | zero => show 0 ≤ (0 : Int32).toInt ∧ (0 : Int32).toInt ≤ 24; decide
  | succ k ih =>
    unfold mal g_max
    have := alk_r (v := v) (set := set) (i := k) hl
    split
    · split <;> omega
    · exact ih
theorem grt (a b : Int32) (s : Sg) : m_greater s a b = some (s, g_max a b) := by
  unfold m_greater m_greater_G g_max
  refine gif_eq (fun c => ?_) (fun c => ?_)
  · rw [if_neg (by rw [ti_lt] at c ⊢; omega)]
  · by_cases d : a < b
    · rw [if_pos d]
    · rw [if_neg d]
      have : a = b := by rw [ti_eq]; rw [ti_lt] at c d; omega
      rw [this]
theorem q_x_mostAlike {s : Sg} {n : Nat} {f : Nat → Int32} {C : List Cla} (T : Told s f C n) (n12 : n ≤ 12) (K : rI s 78 0 0 = 1 ∧ rI s 78 0 1 = 3 ∧ rI s 78 0 2 = 4 ∧ rI s 78 0 3 = 2) (set : Int32) {a : Int32} {fa : Nat} (ha : a.toInt = fa) (hf : fa < 4) :
    x7_mostAlike s set a = some (s, mal (fv f C n fa) set (EL f (2 * n)).length (EL f (2 * n)).length) := by
  have ll : (EL f (2 * n)).length ≤ 2 * n := EL_len
  generalize hL : (EL f (2 * n)).length = len at *
  have outer : ∀ (d i : Nat) (l : Int32) (fuel : Nat), i + d = len → l.toInt = i → d < fuel → x7_mostAlike_b5 fuel s set a (mal (fv f C n fa) set len i) l = some (s, mal (fv f C n fa) set len len) := by
    intro d
    induction d with
    | zero =>
      intro i l fuel h1 h2 h3
      obtain ⟨fuel, rfl⟩ : ∃ x, fuel = x + 1 := ⟨fuel - 1, by omega⟩
      show x7_mostAlike_b5_G _ s set a _ l = _
      unfold x7_mostAlike_b5_G
      rw [gif_f (by rw [ti_lt, h2, T.1, hL]; omega), show i = len by omega]
    | succ d ih =>
      intro i l fuel h1 h2 h3
      obtain ⟨fuel, rfl⟩ : ∃ x, fuel = x + 1 := ⟨fuel - 1, by omega⟩
      have inner : ∀ (e k : Nat) (lk : Int32) (fu : Nat), k + e = len → lk.toInt = k → e < fu → x7_mostAlike_b20 (x7_mostAlike_b5 fuel) fu s set a (mal (fv f C n fa) set len i) l (alk (fv f C n fa) set i k) lk = some (s, mal (fv f C n fa) set len len) := by
        intro e
        induction e with
        | zero =>
          intro k lk fu g1 g2 g3
          obtain ⟨fu, rfl⟩ : ∃ x, fu = x + 1 := ⟨fu - 1, by omega⟩
          show x7_mostAlike_b20_G _ _ _ s set a _ l _ lk = _
          unfold x7_mostAlike_b20_G
          have go := ih (i + 1) (l + 1) fuel (by omega) (by rw [ti_add (by rw [h2, li_1]; omega) (by rw [h2, li_1]; omega), h2, li_1]; omega) (by omega)
          rw [mal_s] at go
          rw [gif_f (by rw [ti_lt, g2, T.1, hL]; omega), bit_iff (by omega) (by omega), show l.toInt.toNat = i by omega, show k = len by omega]
          refine gif_eq (fun c => ?_) (fun c => ?_)
          · rw [if_pos c] at go; exact go
          · rw [if_neg c] at go; exact go
        | succ e ihe =>
          intro k lk fu g1 g2 g3
          obtain ⟨fu, rfl⟩ : ∃ x, fu = x + 1 := ⟨fu - 1, by omega⟩
          show x7_mostAlike_b20_G _ _ _ s set a _ l _ lk = _
          unfold x7_mostAlike_b20_G
          have go := ihe (k + 1) (lk + 1) fu (by omega) (by rw [ti_add (by rw [g2, li_1]; omega) (by rw [g2, li_1]; omega), g2, li_1]; omega) (by omega)
          rw [alk_s] at go
          rw [gif_t (by rw [ti_lt, g2, T.1, hL]; omega), bit_iff (by omega) (by omega), show lk.toInt.toNat = k by omega, q_tellFact T n12 K ha hf g2 (by omega)]
          simp only [Option.bind_some]
          rw [q_tellFact T n12 K ha hf h2 (by omega)]
          simp only [Option.bind_some]
          refine gif_eq (fun c => gif_eq (fun d => ?_) (fun d => ?_)) (fun c => ?_)
          · rw [if_pos ⟨c, d⟩] at go; exact go
          · rw [if_neg (fun x => d x.2)] at go; exact go
          · rw [if_neg (fun x => c x.1)] at go; exact go
      show x7_mostAlike_b5_G _ s set a _ l = _
      unfold x7_mostAlike_b5_G
      rw [gif_t (by rw [ti_lt, h2, T.1, hL]; omega)]
      exact inner len 0 0 FU (by omega) rfl (by show _ < 20000; omega)
  unfold x7_mostAlike x7_mostAlike_G
  exact outer len 0 0 FU (by omega) rfl (by show _ < 20000; omega)
theorem q_m_mostAlike {s : Sg} {n : Nat} {f : Nat → Int32} {C : List Cla} (h : MC s f C n) (n12 : n ≤ 12) (Fc : FctR s f C n (EL f (2 * n)).length) (set : Int32) {a : Int32} {fa : Nat} (ha : a.toInt = fa) (hf : fa < 4) :
    m_mostAlike s set a = some (s, mal (fv f C n fa) set (EL f (2 * n)).length (EL f (2 * n)).length) := by
  have ll : (EL f (2 * n)).length ≤ 2 * n := EL_len
  have tS := h.2.2.1.1
  generalize hL : (EL f (2 * n)).length = len at *
  have ixx : ∀ (l : Int32) (i : Nat), l.toInt = i → i < len → inb (4 * l + a) 96 ∧ ix (4 * l + a) = 4 * i + fa := by
    intro l i h1 h2
    have t4 : (4 * l).toInt = 4 * i := by simp (disch := omega) only [Int32.toInt_add, Int32.toInt_sub, Int32.toInt_mul, Int32.toInt_neg, bm32, li_0, li_1, li_2, li_3, li_4, li_5, li_6, li_7, li_8, li_9, li_10, li_11, li_12, li_13, li_14, li_15, li_16, li_17, li_18, li_19, li_20, li_21, li_22, li_23, li_24, li_25, li_26, li_27, li_28, li_29, li_30, li_31, li_32, li_33, li_34, li_35, li_36, li_37, li_38, li_39, li_40, li_41, li_42, li_43, li_44, li_45, li_46, li_47, li_48, li_49, li_50, li_51, li_52, li_53, li_54, li_55, li_56, li_57, li_58, li_59, li_60, li_61, li_62, li_63, li_64, li_65, li_66, li_67, li_68, li_69, li_70, li_71, li_72, li_73, li_74, li_75, li_76, li_77, li_78, li_91, li_93, li_96, li_97, li_99, li_100, li_122, li_138, li_255, li_256, li_400, li_401, li_625, li_800, li_999, li_1000, li_1001, li_1103, li_2000, li_2037, li_2038, li_2039, li_2040, li_2041, li_2042, li_2043, li_2044, li_2045, li_2046, li_2047, li_2048, li_2049, li_2050, li_2051, li_2052, li_2053, li_2054, li_2055, li_2056, li_2057, li_2058, li_2059, li_2060, li_2061, li_2062, li_2091, li_2093, li_2400, li_2865, li_3000, li_3002, li_3003, li_3005, li_3006, li_3007, li_3008, li_3009, li_3010, li_3011, li_3012, li_3013, li_3020, li_3024, li_3025, li_3026, li_3999, li_4000, li_4095, li_4096, li_5665, li_11330, li_12345, li_15625, li_1000000, li_1000003, li_100000000, li_1000000000, ti_lt, ti_eq, inb_iff, ix_eq, h1]
    have ts : (4 * l + a).toInt = 4 * i + fa := by rw [ti_add (by rw [t4, ha]; omega) (by rw [t4, ha]; omega), t4, ha]
    exact ⟨inb_iff.mpr (by rw [ts]; omega), by rw [ix_eq, ts]; omega⟩
  have outer : ∀ (d i : Nat) (l : Int32) (fuel : Nat), i + d = len → l.toInt = i → d < fuel → m_mostAlike_b5 fuel s set a (mal (fv f C n fa) set len i) l = some (s, mal (fv f C n fa) set len len) := by
    intro d
    induction d with
    | zero =>
      intro i l fuel h1 h2 h3
      obtain ⟨fuel, rfl⟩ : ∃ x, fuel = x + 1 := ⟨fuel - 1, by omega⟩
      show m_mostAlike_b5_G _ s set a _ l = _
      unfold m_mostAlike_b5_G
      rw [gif_f (by rw [ti_lt, h2, tS]; omega), show i = len by omega]
    | succ d ih =>
      intro i l fuel h1 h2 h3
      obtain ⟨fuel, rfl⟩ : ∃ x, fuel = x + 1 := ⟨fuel - 1, by omega⟩
      have inner : ∀ (e k : Nat) (lk : Int32) (fu : Nat), k + e = len → lk.toInt = k → e < fu → m_mostAlike_b20 (m_mostAlike_b5 fuel) fu s set a (mal (fv f C n fa) set len i) l (alk (fv f C n fa) set i k) lk = some (s, mal (fv f C n fa) set len len) := by
        intro e
        induction e with
        | zero =>
          intro k lk fu g1 g2 g3
          obtain ⟨fu, rfl⟩ : ∃ x, fu = x + 1 := ⟨fu - 1, by omega⟩
          show m_mostAlike_b20_G _ _ _ _ s set a _ l _ lk = _
          unfold m_mostAlike_b20_G
          have go := ih (i + 1) (l + 1) fuel (by omega) (by rw [ti_add (by rw [h2, li_1]; omega) (by rw [h2, li_1]; omega), h2, li_1]; omega) (by omega)
          rw [mal_s] at go
          rw [gif_f (by rw [ti_lt, g2, tS]; omega), q_m_isIn (by omega) (by omega), show l.toInt.toNat = i by omega, show k = len by omega]
          simp only [Option.bind_some, gdB0, gdB1, gdbI, gifbI, grt]
          refine gif_eq (fun c => ?_) (fun c => ?_)
          · rw [if_pos c] at go; exact go
          · rw [if_neg c] at go; exact go
        | succ e ihe =>
          intro k lk fu g1 g2 g3
          obtain ⟨fu, rfl⟩ : ∃ x, fu = x + 1 := ⟨fu - 1, by omega⟩
          show m_mostAlike_b20_G _ _ _ _ s set a _ l _ lk = _
          unfold m_mostAlike_b20_G
          have go := ihe (k + 1) (lk + 1) fu (by omega) (by rw [ti_add (by rw [g2, li_1]; omega) (by rw [g2, li_1]; omega), g2, li_1]; omega) (by omega)
          rw [alk_s] at go
          obtain ⟨b1, b2⟩ := ixx l i h2 (by omega)
          obtain ⟨b3, b4⟩ := ixx lk k g2 (by omega)
          rw [gif_t (by rw [ti_lt, g2, tS]; omega), q_m_isIn (by omega) (by omega), show lk.toInt.toNat = k by omega]
          simp only [Option.bind_some, gdB0, gdB1, gdbI, gifbI, Int32.add_zero]
          rw [gd_t b1, gd_t b3, b2, b4, Fc i fa (by omega) hf, Fc k fa (by omega) hf]
          refine gif_eq (fun c => gif_eq (fun d => ?_) (fun d => ?_)) (fun c => ?_)
          · rw [if_pos ⟨c, d.symm⟩] at go; exact go
          · rw [if_neg (fun x => d x.2.symm)] at go; exact go
          · rw [if_neg (fun x => c x.1)] at go; exact go
      show m_mostAlike_b5_G _ s set a _ l = _
      unfold m_mostAlike_b5_G
      rw [gif_t (by rw [ti_lt, h2, tS]; omega)]
      exact inner len 0 0 FU (by omega) rfl (by show _ < 20000; omega)
  unfold m_mostAlike m_mostAlike_G
  exact outer len 0 0 FU (by omega) rfl (by show _ < 20000; omega)
theorem c_look {sx sm : Sg} (h : Inv sx sm) (a : Int32) : Call sx sm (x9_look sx a) (m_look sm a) := by
  obtain ⟨n, C, m, s1, m1, hn, n12, hm, hs1, T, X1, K, hm1, p1, p2⟩ := see_both h
  have M := h.2.1.1.1
  by_cases c : 0 ≤ a.toInt ∧ a.toInt ≤ 1
  · have eb : m_canBe sm = some (m1, setB (fun j => asK (sm.1 43 0) C n j m) (EL (sm.1 43 0) (2 * n)).length) := by
      unfold m_canBe m_canBe_G
      rw [hm1]; simp only [Option.bind_some]
      exact q_canBe_loop M p1 n12 p2 hm
    have el := q_linesAsSeen M X1 T n12 K hm
    have ll : (EL (sm.1 43 0) (2 * n)).length ≤ 2 * n := EL_len
    generalize setB (fun j => asK (sm.1 43 0) C n j m) (EL (sm.1 43 0) (2 * n)).length = set at eb el
    have qx : ∀ (x : Int32) (fa : Nat), x.toInt = fa → fa < 4 → x7_mostAlike s1 set x = _ := fun x fa hx hf => q_x_mostAlike T n12 K set hx hf
    have qm : ∀ (x : Int32) (fa : Nat), x.toInt = fa → fa < 4 → m_mostAlike m1 set x = _ := fun x fa hx hf => q_m_mostAlike p1 n12 p2 set hx hf
    have mr : ∀ fa k, 0 ≤ (mal (fv (sm.1 43 0) C n fa) set (EL (sm.1 43 0) (2 * n)).length k).toInt ∧ (mal (fv (sm.1 43 0) C n fa) set (EL (sm.1 43 0) (2 * n)).length k).toInt ≤ 24 := fun fa k => mal_r (by omega)
    have e0 : x9_look sx a = gif (set = 0) (some (s1, -1)) ((x7_mostAlike s1 set 0).bind fun q3 => x9_look_b56 FU q3.1 a set 0 q3.2 1) := by
      unfold x9_look x9_look_G
      rw [gif_f (by rw [ti_lt, li_0]; omega), gif_f (by rw [ti_lt, li_1]; omega), hs1]
      simp only [Option.bind_some, el]
    have e1 : m_look sm a = m_look_b26 FU m1 a set (-1) 100000000 0 := by
      unfold m_look m_look_G
      simp only [q_m_lies, Option.bind_some, gdB0, gdB1, gdbI, gifbI, li_0, li_1]
      rw [gif_t c, eb]; rfl
    by_cases s0 : set = 0
    · have ex : x9_look sx a = some (s1, -1) := by rw [e0, gif_t s0]
      have em : m_look sm a = some (m1, -1) := by
        rw [e1]
        show m_look_b26_G _ _ m1 a set (-1) 100000000 0 = _
        unfold m_look_b26_G
        rw [gif_t (by decide), gif_t s0, gif_t rfl]
      exact call_scr ex em (fr_x9_look _ _ _ ex) (fr_m_look _ _ _ em) rfl rfl h
    · -- step by step, alike
      have lo : ∀ (d fa : Nat) (x bf bl : Int32) (fu fu' : Nat), fa + d = 4 → x.toInt = fa → 0 ≤ bf.toInt → d < fu → d < fu' → ∃ r, x9_look_b56 fu s1 a set bf bl x = some (s1, r) ∧ m_look_b26 fu' m1 a set bf bl x = some (m1, r) := by
        intro d
        induction d with
        | zero =>
          intro fa x bf bl fu fu' h1 h2 h3 h4 h5
          obtain ⟨fu, rfl⟩ : ∃ y, fu = y + 1 := ⟨fu - 1, by omega⟩
          obtain ⟨fu', rfl⟩ : ∃ y, fu' = y + 1 := ⟨fu' - 1, by omega⟩
          have nb : ¬ bf = -1 := by rw [ti_eq]; show ¬ bf.toInt = -1; omega
          by_cases a0 : a = 0
          · refine ⟨bf, ?_, ?_⟩
            · show x9_look_b56_G _ _ s1 a set bf bl x = _
              unfold x9_look_b56_G; rw [gif_f (by rw [ti_lt, h2, ti_ofNat (by omega)]; omega), gif_t a0]
            · show m_look_b26_G _ _ m1 a set bf bl x = _
              unfold m_look_b26_G; rw [gif_f (by rw [ti_lt, h2, li_4]; omega), gif_f nb, gif_t a0]
          · refine ⟨bl, ?_, ?_⟩
            · show x9_look_b56_G _ _ s1 a set bf bl x = _
              unfold x9_look_b56_G; rw [gif_f (by rw [ti_lt, h2, ti_ofNat (by omega)]; omega), gif_f a0]
            · show m_look_b26_G _ _ m1 a set bf bl x = _
              unfold m_look_b26_G; rw [gif_f (by rw [ti_lt, h2, li_4]; omega), gif_f nb, gif_f a0]
        | succ d ih =>
          intro fa x bf bl fu fu' h1 h2 h3 h4 h5
          obtain ⟨fu, rfl⟩ : ∃ y, fu = y + 1 := ⟨fu - 1, by omega⟩
          obtain ⟨fu', rfl⟩ : ∃ y, fu' = y + 1 := ⟨fu' - 1, by omega⟩
          have tx : (x + 1).toInt = (fa + 1 : Nat) := by rw [ti_add (by rw [h2, li_1]; omega) (by rw [h2, li_1]; omega), h2, li_1]; omega
          have ex : x9_look_b56 (fu + 1) s1 a set bf bl x = gif (mal (fv (sm.1 43 0) C n fa) set (EL (sm.1 43 0) (2 * n)).length (EL (sm.1 43 0) (2 * n)).length < bl) (x9_look_b56 fu s1 a set x (mal (fv (sm.1 43 0) C n fa) set (EL (sm.1 43 0) (2 * n)).length (EL (sm.1 43 0) (2 * n)).length) (x + 1)) (x9_look_b56 fu s1 a set bf bl (x + 1)) := by
            show x9_look_b56_G _ _ s1 a set bf bl x = _
            unfold x9_look_b56_G; rw [gif_t (by rw [ti_lt, h2, ti_ofNat (by omega)]; omega), qx x fa h2 (by omega)]; rfl
          have em : m_look_b26 (fu' + 1) m1 a set bf bl x = gif (mal (fv (sm.1 43 0) C n fa) set (EL (sm.1 43 0) (2 * n)).length (EL (sm.1 43 0) (2 * n)).length < bl) (m_look_b26 fu' m1 a set x (mal (fv (sm.1 43 0) C n fa) set (EL (sm.1 43 0) (2 * n)).length (EL (sm.1 43 0) (2 * n)).length) (x + 1)) (m_look_b26 fu' m1 a set bf bl (x + 1)) := by
            show m_look_b26_G _ _ m1 a set bf bl x = _
            unfold m_look_b26_G; rw [gif_t (by rw [ti_lt, h2, li_4]; omega), gif_f s0, qm x fa h2 (by omega)]; rfl
          rw [ex, em]
          by_cases c : mal (fv (sm.1 43 0) C n fa) set (EL (sm.1 43 0) (2 * n)).length (EL (sm.1 43 0) (2 * n)).length < bl
          · rw [gif_t c, gif_t c]; exact ih (fa + 1) (x + 1) x _ fu fu' (by omega) tx (by omega) (by omega) (by omega)
          · rw [gif_f c, gif_f c]; exact ih (fa + 1) (x + 1) bf bl fu fu' (by omega) tx h3 (by omega) (by omega)
      have z := mr 0 (EL (sm.1 43 0) (2 * n)).length
      obtain ⟨r, r1, r2⟩ := lo 3 1 1 0 (mal (fv (sm.1 43 0) C n 0) set (EL (sm.1 43 0) (2 * n)).length (EL (sm.1 43 0) (2 * n)).length) FU 19999 rfl rfl (by decide) (by show _ < 20000; omega) (by omega)
      have ex : x9_look sx a = some (s1, r) := by
        rw [e0, gif_f s0, qx 0 0 rfl (by omega)]; exact r1
      have em : m_look sm a = some (m1, r) := by
        rw [e1]
        show m_look_b26_G (m_look_b26 19999) _ m1 a set (-1) 100000000 0 = _
        unfold m_look_b26_G
        rw [gif_t (by decide), gif_f s0, qm 0 0 rfl (by omega)]
        simp only [Option.bind_some]
        rw [gif_t (by rw [ti_lt]; show _ < (100000000 : Int); omega)]
        exact r2
      exact call_scr ex em (fr_x9_look _ _ _ ex) (fr_m_look _ _ _ em) rfl rfl h
  · have em : m_look sm a = some (sm, -1) := by
      unfold m_look m_look_G
      simp only [q_m_lies, Option.bind_some, gdB0, gdB1, gdbI, gifbI, li_0, li_1]
      rw [gif_f c]
    have ex : x9_look sx a = some (sx, -1) := by
      unfold x9_look x9_look_G
      rw [ti_lt, ti_lt, li_0, li_1]
      exact gif_eq (fun _ => rfl) (fun d => gif_eq (fun _ => rfl) (fun e => absurd ⟨by omega, by omega⟩ c))
    exact call_id h ex em
