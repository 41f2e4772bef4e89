theorem gd_t {ρ : Type} {p : Prop} {x : Option ρ} (h : p) : gd p x = x := if_pos h
theorem gif_t {ρ : Type} {p : Prop} {x y : Option ρ} (h : p) : gif p x y = x := if_pos h
theorem gif_f {ρ : Type} {p : Prop} {x y : Option ρ} (h : ¬ p) : gif p x y = y := if_neg h
theorem isB0 : isB 0 := .inl rfl
theorem isB1 : isB 1 := .inr rfl
theorem gdB0 {ρ : Type} {x : Option ρ} : gd (isB 0) x = x := gd_t isB0
theorem gdB1 {ρ : Type} {x : Option ρ} : gd (isB 1) x = x := gd_t isB1
theorem ix_eq (i : Int32) : ix i = i.toInt.toNat := rfl
theorem ti_lo (i : Int32) : -2147483648 ≤ i.toInt := Int32.le_toInt i
theorem ti_hi (i : Int32) : i.toInt < 2147483648 := Int32.toInt_lt i
theorem ti_lt {a b : Int32} : a < b ↔ a.toInt < b.toInt := Int32.lt_iff_toInt_lt
theorem ti_eq {a b : Int32} : a = b ↔ a.toInt = b.toInt := Int32.toInt_inj.symm
theorem ti_add {a b : Int32} (h : -2147483648 ≤ a.toInt + b.toInt) (g : a.toInt + b.toInt < 2147483648) : (a + b).toInt = a.toInt + b.toInt := by
  rw [Int32.toInt_add]; exact Int.bmod_eq_of_le (by omega) (by omega)
theorem ti_sub {a b : Int32} (h : -2147483648 ≤ a.toInt - b.toInt) (g : a.toInt - b.toInt < 2147483648) : (a - b).toInt = a.toInt - b.toInt := by
  rw [Int32.toInt_sub]; exact Int.bmod_eq_of_le (by omega) (by omega)
theorem ti_mul {a b : Int32} (h : -2147483648 ≤ a.toInt * b.toInt) (g : a.toInt * b.toInt < 2147483648) : (a * b).toInt = a.toInt * b.toInt := by
  rw [Int32.toInt_mul]; exact Int.bmod_eq_of_le (by omega) (by omega)
theorem ti_neg {a : Int32} (h : -2147483648 < a.toInt) : (-a).toInt = -a.toInt := by
  have := ti_hi a
  rw [Int32.toInt_neg]; exact Int.bmod_eq_of_le (by omega) (by omega)
theorem ti_ofNat {n : Nat} (h : n < 2147483648) : (Int32.ofNat n).toInt = n := Int32.toInt_ofNat_of_lt h
theorem inb_iff {i : Int32} {n : Nat} : inb i n ↔ (0 ≤ i.toInt ∧ i.toInt < n) := by
  unfold inb vp_in
  have h : (i < 0) ↔ i.toInt < 0 := Int32.lt_iff_toInt_lt
  rw [h]
  show ¬(_ ∨ n ≤ i.toInt.toNat) ↔ _
  omega
theorem ti_div2 {a : Int32} (h : 0 ≤ a.toInt) : (a / 2).toInt = a.toInt / 2 := by
  have e : (2 : Int32).toInt = 2 := rfl
  rw [Int32.toInt_div_of_ne_right _ _ (by decide), e]
  exact Int.tdiv_eq_ediv_of_nonneg h
theorem ti_div {a b : Int32} (h : 0 ≤ a.toInt) (g : 0 < b.toInt) : (a / b).toInt = a.toInt / b.toInt := by
  rw [Int32.toInt_div_of_ne_right _ _ (by intro e; subst e; revert g; decide)]
  exact Int.tdiv_eq_ediv_of_nonneg h
theorem ti_rem {a b : Int32} (h : 0 ≤ a.toInt) (g : 0 < b.toInt) : (g_rem a b).toInt = a.toInt % b.toInt := by
  have h1 := ti_div h g
  have := ti_hi a
  have d1 : 0 ≤ a.toInt / b.toInt := Int.ediv_nonneg h (by omega)
  have d2 : a.toInt / b.toInt * b.toInt ≤ a.toInt := Int.ediv_mul_le _ (by omega)
  have d3 : 0 ≤ a.toInt / b.toInt * b.toInt := Int.mul_nonneg d1 (by omega)
  unfold g_rem
  have h2 : (a / b * b).toInt = a.toInt / b.toInt * b.toInt := by
    rw [ti_mul] <;> rw [h1] <;> omega
  rw [ti_sub] <;> rw [h2]
  · rw [Int.emod_def, Int.mul_comm]
  · omega
  · omega
theorem rI_wI {s : Sg} {k i c : Nat} {v : Int32} {k' i' c' : Nat} : rI (wI s k i c v) k' i' c' = if k' = k ∧ i' = i ∧ c' = c then v else rI s k' i' c' := rfl
theorem rL_wL {s : Sg} {k i c : Nat} {v : Int64} {k' i' c' : Nat} : rL (wL s k i c v) k' i' c' = if k' = k ∧ i' = i ∧ c' = c then v else rL s k' i' c' := rfl
theorem rN_wN {s : Sg} {k i c : Nat} {v : Nat} {k' i' c' : Nat} : rN (wN s k i c v) k' i' c' = if k' = k ∧ i' = i ∧ c' = c then v else rN s k' i' c' := rfl
theorem rI_wL {s : Sg} {k i c : Nat} {v : Int64} {k' i' c' : Nat} : rI (wL s k i c v) k' i' c' = rI s k' i' c' := rfl
theorem rI_wN {s : Sg} {k i c : Nat} {v : Nat} {k' i' c' : Nat} : rI (wN s k i c v) k' i' c' = rI s k' i' c' := rfl
theorem rL_wI {s : Sg} {k i c : Nat} {v : Int32} {k' i' c' : Nat} : rL (wI s k i c v) k' i' c' = rL s k' i' c' := rfl
theorem rL_wN {s : Sg} {k i c : Nat} {v : Nat} {k' i' c' : Nat} : rL (wN s k i c v) k' i' c' = rL s k' i' c' := rfl
theorem rN_wI {s : Sg} {k i c : Nat} {v : Int32} {k' i' c' : Nat} : rN (wI s k i c v) k' i' c' = rN s k' i' c' := rfl
theorem rN_wL {s : Sg} {k i c : Nat} {v : Int64} {k' i' c' : Nat} : rN (wL s k i c v) k' i' c' = rN s k' i' c' := rfl
theorem wI_same {s : Sg} {k i c : Nat} {v : Int32} : rI (wI s k i c v) k i c = v := by rw [rI_wI, if_pos ⟨rfl, rfl, rfl⟩]
/-- what a program brings about -/
def ok {α : Type} (o : Option α) (Q : α → Prop) : Prop := ∃ a, o = some a ∧ Q a
section OkRules
variable {α β : Type} {Q : α → Prop}
theorem ok_some {a : α} (h : Q a) : ok (some a) Q := ⟨a, rfl, h⟩
theorem ok_gd {p : Prop} {x : Option α} (h : p) (g : ok x Q) : ok (gd p x) Q := by rw [gd_t h]; exact g
theorem ok_gif {p : Prop} {x y : Option α} (h : p → ok x Q) (g : ¬ p → ok y Q) : ok (gif p x y) Q := by
  by_cases c : p
  · rw [gif_t c]; exact h c
  · rw [gif_f c]; exact g c
theorem ok_bind {o : Option β} {f : β → Option α} (h : ok o (fun b => ok (f b) Q)) : ok (o.bind f) Q := by
  obtain ⟨b, rfl, h⟩ := h; exact h
theorem ok_eq {o p : Option α} (e : o = p) (h : ok p Q) : ok o Q := e ▸ h
theorem ok_mono {o : Option α} {P : α → Prop} (h : ok o P) (g : ∀ a, P a → Q a) : ok o Q := by
  obtain ⟨a, e, h⟩ := h; exact ⟨a, e, g a h⟩
/-- with the frame -/
theorem ok_fr {o : Option α} {P : α → Prop} {π : α → Sg} {L : FPt} {s : Sg} (h : ok o P) (f : frG π L s o) (g : ∀ a, P a → Fr L s (π a) → Q a) : ok o Q := by
  obtain ⟨a, e, h⟩ := h; exact ⟨a, e, g a h (f a e)⟩
theorem ok_loop {S : Type} {K : Nat → S → Option α} (I : S → Prop) (μ : S → Nat) (h : ∀ n s, I s → (∀ s', I s' → μ s' < μ s → ok (K n s') Q) → ok (K (n + 1) s) Q) :
    ∀ n s, I s → μ s < n → ok (K n s) Q := by
  intro n
  induction n with
  | zero => intro s _ h; exact absurd h (Nat.not_lt_zero _)
  | succ n ih => intro s hs hm; exact h n s hs (fun s' h1 h2 => ih s' h1 (by omega))
end OkRules
noncomputable def bI (p : Prop) : Int32 := @ite _ p (Classical.propDecidable p) 1 0
theorem bI_t {p : Prop} (h : p) : bI p = 1 := if_pos h
theorem bI_f {p : Prop} (h : ¬ p) : bI p = 0 := if_neg h
theorem bI_0 {p : Prop} : bI p = 0 ↔ ¬ p := by
  by_cases h : p
  · rw [bI_t h]; exact ⟨fun e => absurd e (by decide), fun e => absurd h e⟩
  · rw [bI_f h]; exact ⟨fun _ => h, fun _ => rfl⟩
theorem bI_1 {p : Prop} : bI p = 1 ↔ p := by
  by_cases h : p
  · rw [bI_t h]; exact ⟨fun _ => h, fun _ => rfl⟩
  · rw [bI_f h]; exact ⟨fun e => absurd e (by decide), fun e => absurd e h⟩
theorem bI_B {p : Prop} : isB (bI p) := by
  by_cases h : p
  · rw [bI_t h]; exact isB1
  · rw [bI_f h]; exact isB0
theorem gdbI {ρ : Type} {p : Prop} {x : Option ρ} : gd (isB (bI p)) x = x := gd_t bI_B
theorem gifbI {ρ : Type} {p : Prop} {x y : Option ρ} : gif (bI p = 0) x y = gif p y x := by
  by_cases h : p
  · rw [gif_f (by rw [bI_0]; exact fun g => g h), gif_t h]
  · rw [gif_t (bI_0.mpr h), gif_f h]
theorem gif_bI {p : Prop} {s : Sg} : gif p (some (s, (1 : Int32))) (some (s, 0)) = some (s, bI p) := by
  by_cases h : p
  · rw [gif_t h, bI_t h]
  · rw [gif_f h, bI_f h]
theorem gif_bIn {p : Prop} {s : Sg} : gif p (some (s, (0 : Int32))) (some (s, 1)) = some (s, bI ¬ p) := by
  by_cases h : p
  · rw [gif_t h, bI_f (fun g => g h)]
  · rw [gif_f h, bI_t h]
theorem bI_congr {p q : Prop} (h : p ↔ q) : bI p = bI q := by rw [propext h]
theorem bm32 {x : Int} (h : -2147483648 ≤ x) (g : x < 2147483648) : x.bmod (2 ^ 32) = x := Int.bmod_eq_of_le (by omega) (by omega)
theorem gd_f {ρ : Type} {p : Prop} {x : Option ρ} (h : ¬ p) : gd p x = none := if_neg h
theorem gd_e {ρ : Type} (p : Prop) (x : Option ρ) : gd p x = @ite _ p (Classical.propDecidable p) x none := rfl
/-! ===== Int32 by its bits: bt x i ===== -/
def bt (x : Int32) (i : Nat) : Bool := x.toBitVec.getLsbD i
theorem b_ext {x y : Int32} (h : ∀ i, i < 32 → bt x i = bt y i) : x = y := Int32.toBitVec_inj.mp (BitVec.eq_of_getLsbD_eq (fun i hi => h i hi))
theorem b_or (x y : Int32) (i : Nat) : bt (x ||| y) i = (bt x i || bt y i) := by unfold bt; rw [Int32.toBitVec_or, BitVec.getLsbD_or]
theorem b_and (x y : Int32) (i : Nat) : bt (x &&& y) i = (bt x i && bt y i) := by unfold bt; rw [Int32.toBitVec_and, BitVec.getLsbD_and]
theorem b_xor (x y : Int32) (i : Nat) : bt (x ^^^ y) i = (bt x i ^^ bt y i) := by unfold bt; rw [Int32.toBitVec_xor, BitVec.getLsbD_xor]
theorem b_big {x : Int32} {i : Nat} (h : 32 ≤ i) : bt x i = false := BitVec.getLsbD_of_ge _ _ h
theorem b_255 (i : Nat) : bt 255 i = decide (i < 8) := by
  rcases Nat.lt_or_ge i 32 with h | h
  · exact (by decide +kernel : ∀ i, i < 32 → bt 255 i = decide (i < 8)) i h
  · rw [b_big h, decide_eq_false (by omega)]
theorem b_65535 (i : Nat) : bt 65535 i = decide (i < 16) := by
  rcases Nat.lt_or_ge i 32 with h | h
  · exact (by decide +kernel : ∀ i, i < 32 → bt 65535 i = decide (i < 16)) i h
  · rw [b_big h, decide_eq_false (by omega)]
theorem b_m1 : ∀ i, i < 32 → bt (-1) i = true := by decide +kernel
theorem b_0 (i : Nat) : bt 0 i = false := BitVec.getLsbD_zero
theorem s_l : ∀ n, n < 32 → ((nI n &&& 31).toBitVec.smod 32).toNat = n := by decide +kernel
theorem s_u : ∀ n, n < 32 → (((nI n).toUInt32 &&& Int32.toUInt32 31).toBitVec % 32).toNat = n := by decide +kernel
theorem b_shl (n : Nat) (hn : n < 32) (x : Int32) {i : Nat} (hi : i < 32) : bt (x <<< (nI n &&& 31)) i = (decide (n ≤ i) && bt x (i - n)) := by
  unfold bt
  rw [Int32.toBitVec_shiftLeft]
  show (x.toBitVec <<< ((nI n &&& 31).toBitVec.smod 32).toNat).getLsbD i = _
  rw [s_l n hn, BitVec.getLsbD_shiftLeft]
  rcases Nat.lt_or_ge i n with h | h
  · simp [h, Nat.not_le.mpr h]
  · simp [hi, h, Nat.not_lt.mpr h]
theorem b_ushr (n : Nat) (hn : n < 32) (x : Int32) (i : Nat) : bt ((x.toUInt32 >>> ((nI n).toUInt32 &&& Int32.toUInt32 31)).toInt32) i = bt x (n + i) := by
  show (x.toUInt32 >>> ((nI n).toUInt32 &&& Int32.toUInt32 31)).toBitVec.getLsbD i = x.toUInt32.toBitVec.getLsbD (n + i)
  rw [UInt32.toBitVec_shiftRight]
  show (x.toUInt32.toBitVec >>> (((nI n).toUInt32 &&& Int32.toUInt32 31).toBitVec % 32).toNat).getLsbD i = _
  rw [s_u n hn, BitVec.getLsbD_ushiftRight]
theorem b_sshr (n : Nat) (hn : n < 32) (x : Int32) {i : Nat} (hi : i < 32) : bt (x >>> (nI n &&& 31)) i = if n + i < 32 then bt x (n + i) else bt x 31 := by
  unfold bt
  rw [Int32.toBitVec_shiftRight]
  show (x.toBitVec.sshiftRight ((nI n &&& 31).toBitVec.smod 32).toNat).getLsbD i = _
  rw [s_l n hn, BitVec.getLsbD_sshiftRight, BitVec.msb_eq_getLsbD_last]
  simp [hi]
theorem nI_ti {n : Nat} (h : n < 2147483648) : (nI n).toInt = n := ti_ofNat h
theorem eq_nI {x : Int32} (h : 0 ≤ x.toInt) : x = nI x.toInt.toNat := by
  have := ti_hi x
  apply Int32.toInt_inj.mp; rw [nI_ti (by omega)]; omega
theorem b_1 (i : Nat) : bt 1 i = decide (i = 0) := by
  rcases Nat.lt_or_ge i 32 with h | h
  · exact (by decide +kernel : ∀ i, i < 32 → bt 1 i = decide (i = 0)) i h
  · rw [b_big h, decide_eq_false (by omega)]
/-- one bit of a set -/
theorem bit_iff {x w : Int32} (h : 0 ≤ w.toInt) (g : w.toInt < 32) : ((x >>> (w &&& 31)) &&& 1 = 1) ↔ bt x w.toInt.toNat = true := by
  obtain ⟨n, hn, rfl⟩ : ∃ n, n < 32 ∧ w = nI n := ⟨w.toInt.toNat, by omega, eq_nI h⟩
  rw [nI_ti (by omega)]
  constructor
  · intro e
    have := congrArg (fun y => bt y 0) e
    simp only [b_and, b_1] at this
    rw [b_sshr n hn x (by omega)] at this
    simpa [hn] using this
  · intro e
    apply b_ext
    intro i hi
    rw [b_and, b_1, b_sshr n hn x hi]
    by_cases h0 : i = 0
    · subst h0; simpa [hn] using e
    · simp [h0]
theorem b_flip {x w : Int32} (h : 0 ≤ w.toInt) (g : w.toInt < 32) {i : Nat} (hi : i < 32) : bt (x ^^^ (1 <<< (w &&& 31))) i = (bt x i ^^ decide (i = w.toInt.toNat)) := by
  obtain ⟨n, hn, rfl⟩ : ∃ n, n < 32 ∧ w = nI n := ⟨w.toInt.toNat, by omega, eq_nI h⟩
  rw [nI_ti (by omega), b_xor, b_shl n hn 1 hi, b_1]
  congr 1
  by_cases h1 : n ≤ i
  · simp [h1]; omega
  · simp [h1]; omega
theorem b_clr {x w : Int32} (h : 0 ≤ w.toInt) (g : w.toInt < 32) (e : bt x w.toInt.toNat = false) : x &&& ((1 <<< (w &&& 31)) ^^^ (-1)) = x := by
  obtain ⟨n, hn, rfl⟩ : ∃ n, n < 32 ∧ w = nI n := ⟨w.toInt.toNat, by omega, eq_nI h⟩
  rw [nI_ti (by omega)] at e
  apply b_ext
  intro i hi
  rw [b_and, b_xor, b_shl n hn 1 hi, b_1, b_m1 i hi]
  simp only [Int.toNat_natCast] at e
  by_cases h1 : i = n
  · subst h1; simp [e]
  · by_cases h2 : n ≤ i
    · have : ¬ (i - n = 0) := by omega
      simp [this]
    · simp [h2]
theorem xor_twice (x y : Int32) : x ^^^ y ^^^ y = x := by
  rw [Int32.xor_assoc, Int32.xor_self, Int32.xor_zero]
theorem li_0 : (0 : Int32).toInt = 0 := rfl
theorem li_1 : (1 : Int32).toInt = 1 := rfl
theorem li_2 : (2 : Int32).toInt = 2 := rfl
theorem li_3 : (3 : Int32).toInt = 3 := rfl
theorem li_4 : (4 : Int32).toInt = 4 := rfl
theorem li_5 : (5 : Int32).toInt = 5 := rfl
theorem li_6 : (6 : Int32).toInt = 6 := rfl
theorem li_7 : (7 : Int32).toInt = 7 := rfl
theorem li_8 : (8 : Int32).toInt = 8 := rfl
theorem li_9 : (9 : Int32).toInt = 9 := rfl
theorem li_10 : (10 : Int32).toInt = 10 := rfl
theorem li_11 : (11 : Int32).toInt = 11 := rfl
theorem li_12 : (12 : Int32).toInt = 12 := rfl
theorem li_13 : (13 : Int32).toInt = 13 := rfl
theorem li_14 : (14 : Int32).toInt = 14 := rfl
theorem li_15 : (15 : Int32).toInt = 15 := rfl
theorem li_16 : (16 : Int32).toInt = 16 := rfl
theorem li_17 : (17 : Int32).toInt = 17 := rfl
theorem li_18 : (18 : Int32).toInt = 18 := rfl
theorem li_19 : (19 : Int32).toInt = 19 := rfl
theorem li_20 : (20 : Int32).toInt = 20 := rfl
theorem li_21 : (21 : Int32).toInt = 21 := rfl
theorem li_22 : (22 : Int32).toInt = 22 := rfl
theorem li_23 : (23 : Int32).toInt = 23 := rfl
theorem li_24 : (24 : Int32).toInt = 24 := rfl
theorem li_25 : (25 : Int32).toInt = 25 := rfl
theorem li_26 : (26 : Int32).toInt = 26 := rfl
theorem li_27 : (27 : Int32).toInt = 27 := rfl
theorem li_28 : (28 : Int32).toInt = 28 := rfl
theorem li_29 : (29 : Int32).toInt = 29 := rfl
theorem li_30 : (30 : Int32).toInt = 30 := rfl
theorem li_31 : (31 : Int32).toInt = 31 := rfl
theorem li_32 : (32 : Int32).toInt = 32 := rfl
theorem li_33 : (33 : Int32).toInt = 33 := rfl
theorem li_34 : (34 : Int32).toInt = 34 := rfl
theorem li_35 : (35 : Int32).toInt = 35 := rfl
theorem li_36 : (36 : Int32).toInt = 36 := rfl
theorem li_37 : (37 : Int32).toInt = 37 := rfl
theorem li_38 : (38 : Int32).toInt = 38 := rfl
theorem li_39 : (39 : Int32).toInt = 39 := rfl
theorem li_40 : (40 : Int32).toInt = 40 := rfl
theorem li_41 : (41 : Int32).toInt = 41 := rfl
theorem li_42 : (42 : Int32).toInt = 42 := rfl
theorem li_43 : (43 : Int32).toInt = 43 := rfl
theorem li_44 : (44 : Int32).toInt = 44 := rfl
theorem li_45 : (45 : Int32).toInt = 45 := rfl
theorem li_46 : (46 : Int32).toInt = 46 := rfl
theorem li_47 : (47 : Int32).toInt = 47 := rfl
theorem li_48 : (48 : Int32).toInt = 48 := rfl
theorem li_49 : (49 : Int32).toInt = 49 := rfl
theorem li_50 : (50 : Int32).toInt = 50 := rfl
theorem li_51 : (51 : Int32).toInt = 51 := rfl
theorem li_52 : (52 : Int32).toInt = 52 := rfl
theorem li_53 : (53 : Int32).toInt = 53 := rfl
theorem li_54 : (54 : Int32).toInt = 54 := rfl
theorem li_55 : (55 : Int32).toInt = 55 := rfl
theorem li_56 : (56 : Int32).toInt = 56 := rfl
theorem li_57 : (57 : Int32).toInt = 57 := rfl
theorem li_58 : (58 : Int32).toInt = 58 := rfl
theorem li_59 : (59 : Int32).toInt = 59 := rfl
theorem li_60 : (60 : Int32).toInt = 60 := rfl
theorem li_61 : (61 : Int32).toInt = 61 := rfl
theorem li_62 : (62 : Int32).toInt = 62 := rfl
theorem li_63 : (63 : Int32).toInt = 63 := rfl
theorem li_64 : (64 : Int32).toInt = 64 := rfl
theorem li_65 : (65 : Int32).toInt = 65 := rfl
theorem li_66 : (66 : Int32).toInt = 66 := rfl
theorem li_67 : (67 : Int32).toInt = 67 := rfl
theorem li_68 : (68 : Int32).toInt = 68 := rfl
theorem li_69 : (69 : Int32).toInt = 69 := rfl
theorem li_70 : (70 : Int32).toInt = 70 := rfl
theorem li_71 : (71 : Int32).toInt = 71 := rfl
theorem li_72 : (72 : Int32).toInt = 72 := rfl
theorem li_73 : (73 : Int32).toInt = 73 := rfl
theorem li_74 : (74 : Int32).toInt = 74 := rfl
theorem li_75 : (75 : Int32).toInt = 75 := rfl
theorem li_76 : (76 : Int32).toInt = 76 := rfl
theorem li_77 : (77 : Int32).toInt = 77 := rfl
theorem li_78 : (78 : Int32).toInt = 78 := rfl
theorem li_91 : (91 : Int32).toInt = 91 := rfl
theorem li_93 : (93 : Int32).toInt = 93 := rfl
theorem li_96 : (96 : Int32).toInt = 96 := rfl
theorem li_97 : (97 : Int32).toInt = 97 := rfl
theorem li_99 : (99 : Int32).toInt = 99 := rfl
theorem li_100 : (100 : Int32).toInt = 100 := rfl
theorem li_122 : (122 : Int32).toInt = 122 := rfl
theorem li_138 : (138 : Int32).toInt = 138 := rfl
theorem li_255 : (255 : Int32).toInt = 255 := rfl
theorem li_256 : (256 : Int32).toInt = 256 := rfl
theorem li_400 : (400 : Int32).toInt = 400 := rfl
theorem li_401 : (401 : Int32).toInt = 401 := rfl
theorem li_625 : (625 : Int32).toInt = 625 := rfl
theorem li_800 : (800 : Int32).toInt = 800 := rfl
theorem li_999 : (999 : Int32).toInt = 999 := rfl
theorem li_1000 : (1000 : Int32).toInt = 1000 := rfl
theorem li_1001 : (1001 : Int32).toInt = 1001 := rfl
theorem li_1103 : (1103 : Int32).toInt = 1103 := rfl
theorem li_2000 : (2000 : Int32).toInt = 2000 := rfl
theorem li_2037 : (2037 : Int32).toInt = 2037 := rfl
theorem li_2038 : (2038 : Int32).toInt = 2038 := rfl
theorem li_2039 : (2039 : Int32).toInt = 2039 := rfl
theorem li_2040 : (2040 : Int32).toInt = 2040 := rfl
theorem li_2041 : (2041 : Int32).toInt = 2041 := rfl
theorem li_2042 : (2042 : Int32).toInt = 2042 := rfl
theorem li_2043 : (2043 : Int32).toInt = 2043 := rfl
theorem li_2044 : (2044 : Int32).toInt = 2044 := rfl
theorem li_2045 : (2045 : Int32).toInt = 2045 := rfl
theorem li_2046 : (2046 : Int32).toInt = 2046 := rfl
theorem li_2047 : (2047 : Int32).toInt = 2047 := rfl
theorem li_2048 : (2048 : Int32).toInt = 2048 := rfl
theorem li_2049 : (2049 : Int32).toInt = 2049 := rfl
theorem li_2050 : (2050 : Int32).toInt = 2050 := rfl
theorem li_2051 : (2051 : Int32).toInt = 2051 := rfl
theorem li_2052 : (2052 : Int32).toInt = 2052 := rfl
theorem li_2053 : (2053 : Int32).toInt = 2053 := rfl
theorem li_2054 : (2054 : Int32).toInt = 2054 := rfl
theorem li_2055 : (2055 : Int32).toInt = 2055 := rfl
theorem li_2056 : (2056 : Int32).toInt = 2056 := rfl
theorem li_2057 : (2057 : Int32).toInt = 2057 := rfl
theorem li_2058 : (2058 : Int32).toInt = 2058 := rfl
theorem li_2059 : (2059 : Int32).toInt = 2059 := rfl
theorem li_2060 : (2060 : Int32).toInt = 2060 := rfl
theorem li_2061 : (2061 : Int32).toInt = 2061 := rfl
theorem li_2062 : (2062 : Int32).toInt = 2062 := rfl
theorem li_2091 : (2091 : Int32).toInt = 2091 := rfl
theorem li_2093 : (2093 : Int32).toInt = 2093 := rfl
theorem li_2400 : (2400 : Int32).toInt = 2400 := rfl
theorem li_2865 : (2865 : Int32).toInt = 2865 := rfl
theorem li_3000 : (3000 : Int32).toInt = 3000 := rfl
theorem li_3002 : (3002 : Int32).toInt = 3002 := rfl
theorem li_3003 : (3003 : Int32).toInt = 3003 := rfl
theorem li_3005 : (3005 : Int32).toInt = 3005 := rfl
theorem li_3006 : (3006 : Int32).toInt = 3006 := rfl
theorem li_3007 : (3007 : Int32).toInt = 3007 := rfl
theorem li_3008 : (3008 : Int32).toInt = 3008 := rfl
theorem li_3009 : (3009 : Int32).toInt = 3009 := rfl
theorem li_3010 : (3010 : Int32).toInt = 3010 := rfl
theorem li_3011 : (3011 : Int32).toInt = 3011 := rfl
theorem li_3012 : (3012 : Int32).toInt = 3012 := rfl
theorem li_3013 : (3013 : Int32).toInt = 3013 := rfl
theorem li_3020 : (3020 : Int32).toInt = 3020 := rfl
theorem li_3024 : (3024 : Int32).toInt = 3024 := rfl
theorem li_3025 : (3025 : Int32).toInt = 3025 := rfl
theorem li_3026 : (3026 : Int32).toInt = 3026 := rfl
theorem li_3999 : (3999 : Int32).toInt = 3999 := rfl
theorem li_4000 : (4000 : Int32).toInt = 4000 := rfl
theorem li_4095 : (4095 : Int32).toInt = 4095 := rfl
theorem li_4096 : (4096 : Int32).toInt = 4096 := rfl
theorem li_5665 : (5665 : Int32).toInt = 5665 := rfl
theorem li_11330 : (11330 : Int32).toInt = 11330 := rfl
theorem li_12345 : (12345 : Int32).toInt = 12345 := rfl
theorem li_15625 : (15625 : Int32).toInt = 15625 := rfl
theorem li_1000000 : (1000000 : Int32).toInt = 1000000 := rfl
theorem li_1000003 : (1000003 : Int32).toInt = 1000003 := rfl
theorem li_100000000 : (100000000 : Int32).toInt = 100000000 := rfl
theorem li_1000000000 : (1000000000 : Int32).toInt = 1000000000 := rfl
