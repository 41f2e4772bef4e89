theorem gd_t {ρ : Type} {p : Prop} {x : Option ρ} (h : p) : gd p x = x := if_pos h
theorem gif_t {ρ : Type} {p : Prop} {x y : Option ρ} (h : p) : gif p x y = x := if_pos h
theorem gif_f {ρ : Type} {p : Prop} {x y : Option ρ} (h : ¬ p) : gif p x y = y := if_neg h
theorem isB0 : isB 0 := .inl rfl
theorem isB1 : isB 1 := .inr rfl
theorem gdB0 {ρ : Type} {x : Option ρ} : gd (isB 0) x = x := gd_t isB0
theorem gdB1 {ρ : Type} {x : Option ρ} : gd (isB 1) x = x := gd_t isB1
theorem ix_eq (i : Int32) : ix i = i.toInt.toNat := rfl
theorem ti_lo (i : Int32) : -2147483648 ≤ i.toInt := Int32.le_toInt i
theorem ti_hi (i : Int32) : i.toInt < 2147483648 := Int32.toInt_lt i
theorem ti_lt {a b : Int32} : a < b ↔ a.toInt < b.toInt := Int32.lt_iff_toInt_lt
theorem ti_eq {a b : Int32} : a = b ↔ a.toInt = b.toInt := Int32.toInt_inj.symm
theorem ti_add {a b : Int32} (h : -2147483648 ≤ a.toInt + b.toInt) (g : a.toInt + b.toInt < 2147483648) : (a + b).toInt = a.toInt + b.toInt := by
  rw [Int32.toInt_add]; exact Int.bmod_eq_of_le (by omega) (by omega)
theorem ti_sub {a b : Int32} (h : -2147483648 ≤ a.toInt - b.toInt) (g : a.toInt - b.toInt < 2147483648) : (a - b).toInt = a.toInt - b.toInt := by
  rw [Int32.toInt_sub]; exact Int.bmod_eq_of_le (by omega) (by omega)
theorem ti_mul {a b : Int32} (h : -2147483648 ≤ a.toInt * b.toInt) (g : a.toInt * b.toInt < 2147483648) : (a * b).toInt = a.toInt * b.toInt := by
  rw [Int32.toInt_mul]; exact Int.bmod_eq_of_le (by omega) (by omega)
theorem ti_neg {a : Int32} (h : -2147483648 < a.toInt) : (-a).toInt = -a.toInt := by
  have := ti_hi a
  rw [Int32.toInt_neg]; exact Int.bmod_eq_of_le (by omega) (by omega)
theorem ti_ofNat {n : Nat} (h : n < 2147483648) : (Int32.ofNat n).toInt = n := Int32.toInt_ofNat_of_lt h
theorem inb_iff {i : Int32} {n : Nat} : inb i n ↔ (0 ≤ i.toInt ∧ i.toInt < n) := by
  unfold inb vp_in
  have h : (i < 0) ↔ i.toInt < 0 := Int32.lt_iff_toInt_lt
  rw [h]
  show ¬(_ ∨ n ≤ i.toInt.toNat) ↔ _
  omega
theorem ti_div2 {a : Int32} (h : 0 ≤ a.toInt) : (a / 2).toInt = a.toInt / 2 := by
  have e : (2 : Int32).toInt = 2 := rfl
  rw [Int32.toInt_div_of_ne_right _ _ (by decide), e]
  exact Int.tdiv_eq_ediv_of_nonneg h
theorem ti_div {a b : Int32} (h : 0 ≤ a.toInt) (g : 0 < b.toInt) : (a / b).toInt = a.toInt / b.toInt := by
  rw [Int32.toInt_div_of_ne_right _ _ (by intro e; subst e; revert g; decide)]
  exact Int.tdiv_eq_ediv_of_nonneg h
theorem ti_rem {a b : Int32} (h : 0 ≤ a.toInt) (g : 0 < b.toInt) : (g_rem a b).toInt = a.toInt % b.toInt := by
  have h1 := ti_div h g
  have := ti_hi a
  have d1 : 0 ≤ a.toInt / b.toInt := Int.ediv_nonneg h (by omega)
  have d2 : a.toInt / b.toInt * b.toInt ≤ a.toInt := Int.ediv_mul_le _ (by omega)
  have d3 : 0 ≤ a.toInt / b.toInt * b.toInt := Int.mul_nonneg d1 (by omega)
  unfold g_rem
  have h2 : (a / b * b).toInt = a.toInt / b.toInt * b.toInt := by
    rw [ti_mul] <;> rw [h1] <;> omega
  rw [ti_sub] <;> rw [h2]
  · rw [Int.emod_def, Int.mul_comm]
  · omega
  · omega
theorem rI_wI {s : Sg} {k i c : Nat} {v : Int32} {k' i' c' : Nat} : rI (wI s k i c v) k' i' c' = if k' = k ∧ i' = i ∧ c' = c then v else rI s k' i' c' := rfl
theorem rL_wL {s : Sg} {k i c : Nat} {v : Int64} {k' i' c' : Nat} : rL (wL s k i c v) k' i' c' = if k' = k ∧ i' = i ∧ c' = c then v else rL s k' i' c' := rfl
theorem rN_wN {s : Sg} {k i c : Nat} {v : Nat} {k' i' c' : Nat} : rN (wN s k i c v) k' i' c' = if k' = k ∧ i' = i ∧ c' = c then v else rN s k' i' c' := rfl
theorem rI_wL {s : Sg} {k i c : Nat} {v : Int64} {k' i' c' : Nat} : rI (wL s k i c v) k' i' c' = rI s k' i' c' := rfl
theorem rI_wN {s : Sg} {k i c : Nat} {v : Nat} {k' i' c' : Nat} : rI (wN s k i c v) k' i' c' = rI s k' i' c' := rfl
theorem rL_wI {s : Sg} {k i c : Nat} {v : Int32} {k' i' c' : Nat} : rL (wI s k i c v) k' i' c' = rL s k' i' c' := rfl
theorem rL_wN {s : Sg} {k i c : Nat} {v : Nat} {k' i' c' : Nat} : rL (wN s k i c v) k' i' c' = rL s k' i' c' := rfl
theorem rN_wI {s : Sg} {k i c : Nat} {v : Int32} {k' i' c' : Nat} : rN (wI s k i c v) k' i' c' = rN s k' i' c' := rfl
theorem rN_wL {s : Sg} {k i c : Nat} {v : Int64} {k' i' c' : Nat} : rN (wL s k i c v) k' i' c' = rN s k' i' c' := rfl
theorem wI_same {s : Sg} {k i c : Nat} {v : Int32} : rI (wI s k i c v) k i c = v := by rw [rI_wI, if_pos ⟨rfl, rfl, rfl⟩]
/-- what a program brings about -/
def ok {α : Type} (o : Option α) (Q : α → Prop) : Prop := ∃ a, o = some a ∧ Q a
section OkRules
variable {α β : Type} {Q : α → Prop}
theorem ok_some {a : α} (h : Q a) : ok (some a) Q := ⟨a, rfl, h⟩
theorem ok_gd {p : Prop} {x : Option α} (h : p) (g : ok x Q) : ok (gd p x) Q := by rw [gd_t h]; exact g
theorem ok_gif {p : Prop} {x y : Option α} (h : p → ok x Q) (g : ¬ p → ok y Q) : ok (gif p x y) Q := by
  by_cases c : p
  · rw [gif_t c]; exact h c
  · rw [gif_f c]; exact g c
theorem ok_bind {o : Option β} {f : β → Option α} (h : ok o (fun b => ok (f b) Q)) : ok (o.bind f) Q := by
  obtain ⟨b, rfl, h⟩ := h; exact h
theorem ok_eq {o p : Option α} (e : o = p) (h : ok p Q) : ok o Q := e ▸ h
theorem ok_mono {o : Option α} {P : α → Prop} (h : ok o P) (g : ∀ a, P a → Q a) : ok o Q := by
  obtain ⟨a, e, h⟩ := h; exact ⟨a, e, g a h⟩
/-- with the frame -/
theorem ok_fr {o : Option α} {P : α → Prop} {π : α → Sg} {L : List (Nat × Nat)} {s : Sg} (h : ok o P) (f : frG π L s o) (g : ∀ a, P a → Fr L s (π a) → Q a) : ok o Q := by
  obtain ⟨a, e, h⟩ := h; exact ⟨a, e, g a h (f a e)⟩
theorem ok_loop {S : Type} {K : Nat → S → Option α} (I : S → Prop) (μ : S → Nat) (h : ∀ n s, I s → (∀ s', I s' → μ s' < μ s → ok (K n s') Q) → ok (K (n + 1) s) Q) :
    ∀ n s, I s → μ s < n → ok (K n s) Q := by
  intro n
  induction n with
  | zero => intro s _ h; exact absurd h (Nat.not_lt_zero _)
  | succ n ih => intro s hs hm; exact h n s hs (fun s' h1 h2 => ih s' h1 (by omega))
end OkRules
noncomputable def bI (p : Prop) : Int32 := @ite _ p (Classical.propDecidable p) 1 0
theorem bI_t {p : Prop} (h : p) : bI p = 1 := if_pos h
theorem bI_f {p : Prop} (h : ¬ p) : bI p = 0 := if_neg h
theorem bI_0 {p : Prop} : bI p = 0 ↔ ¬ p := by
  by_cases h : p
  · rw [bI_t h]; exact ⟨fun e => absurd e (by decide), fun e => absurd h e⟩
  · rw [bI_f h]; exact ⟨fun _ => h, fun _ => rfl⟩
theorem bI_1 {p : Prop} : bI p = 1 ↔ p := by
  by_cases h : p
  · rw [bI_t h]; exact ⟨fun _ => h, fun _ => rfl⟩
  · rw [bI_f h]; exact ⟨fun e => absurd e (by decide), fun e => absurd e h⟩
theorem bI_B {p : Prop} : isB (bI p) := by
  by_cases h : p
  · rw [bI_t h]; exact isB1
  · rw [bI_f h]; exact isB0
theorem gdbI {ρ : Type} {p : Prop} {x : Option ρ} : gd (isB (bI p)) x = x := gd_t bI_B
theorem gifbI {ρ : Type} {p : Prop} {x y : Option ρ} : gif (bI p = 0) x y = gif p y x := by
  by_cases h : p
  · rw [gif_f (by rw [bI_0]; exact fun g => g h), gif_t h]
  · rw [gif_t (bI_0.mpr h), gif_f h]
theorem gif_bI {p : Prop} {s : Sg} : gif p (some (s, (1 : Int32))) (some (s, 0)) = some (s, bI p) := by
  by_cases h : p
  · rw [gif_t h, bI_t h]
  · rw [gif_f h, bI_f h]
theorem gif_bIn {p : Prop} {s : Sg} : gif p (some (s, (0 : Int32))) (some (s, 1)) = some (s, bI ¬ p) := by
  by_cases h : p
  · rw [gif_t h, bI_f (fun g => g h)]
  · rw [gif_f h, bI_t h]
theorem bI_congr {p q : Prop} (h : p ↔ q) : bI p = bI q := by rw [propext h]
/-! experiments -/
theorem xt1 (s : Sg) (a b c : Int32) : m_lies s a b c = some (s, bI (b.toInt ≤ a.toInt ∧ a.toInt ≤ c.toInt)) := by
  unfold m_lies m_lies_G
  simp only [gdB0, gdB1, gif_bIn, ti_lt]
  grind [gif, bI]
theorem xt2 (s : Sg) (a : Int32) (h : 0 ≤ (rI s 43 0 54).toInt) (h2 : (rI s 43 0 54).toInt ≤ 12) : m_isWord s a = some (s, bI (0 ≤ a.toInt ∧ a.toInt < (rI s 43 0 54).toInt)) := by
  unfold m_isWord m_isWord_G m_wordMany m_wordMany_G
  have e1 : ix 54 = 54 := rfl
  have e2 : inb 54 5665 := by rw [inb_iff]; decide
  simp only [gd_t e2, e1, Option.bind_some, xt1, gdbI]
  congr 3
  grind
theorem xt3 (a b : Int32) (h : a < b) (h2 : b < 100) (h3 : 0 ≤ a) : a + 1 ≤ b ∧ (a + 1).toInt = a.toInt + 1 := by
  grind
theorem xt4 (a b : Int32) (h : a.toInt < b.toInt) (h2 : b < 100) (h3 : 0 ≤ a) : a + 1 ≤ b ∧ ix (a + 1) = ix a + 1 := by
  grind [ix_eq]
theorem xt5 (a b : Int32) (h : a.toInt < b.toInt) (h2 : b.toInt < 100) (h3 : 0 ≤ a.toInt) : (5665 * a + b).toInt = 5665 * a.toInt + b.toInt := by
  grind
