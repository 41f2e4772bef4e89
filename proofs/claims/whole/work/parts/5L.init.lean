/-! THE FIRST WORLD: the class's hundred cells, the model's thirty-three -/
def offTbl : List (List Nat) := [[1], [2, 44, 52, 84, 92, 31], [25, 78], [10, 39], [27, 80, 29], [73], [63], [14], [64], [0], [100], [43], [3, 45, 53, 85, 93, 32], [4, 46, 54, 86, 94, 33], [5, 47, 55, 87, 95, 34], [6, 48, 56, 88, 96, 35], [7, 49, 57, 89, 97, 36], [8, 50, 58, 90, 98, 37], [9, 51, 59, 91, 99, 38], [26, 79], [11, 40], [12, 41], [13, 42], [28, 81, 30], [74], [75], [76], [77], [71], [72], [15], [65], [66], [67], [68], [69], [70], [60], [61], [62], [82], [83], [101], [102], [103], [104], [105], [106], [107], [108], [109], [110], [111], [112], [113], [114], [115], [116], [117], [118], [119], [120], [121], [122], [123], [124], [125], [126], [127], [128], [129], [130], [131], [132], [16, 17, 18, 19, 20, 21, 22], [23, 24]]
def invTbl : List (Nat × Nat) := [(9, 0), (0, 0), (1, 0), (12, 0), (13, 0), (14, 0), (15, 0), (16, 0), (17, 0), (18, 0), (3, 0), (20, 0), (21, 0), (22, 0), (7, 0), (30, 0), (74, 0), (74, 1), (74, 2), (74, 3), (74, 4), (74, 5), (74, 6), (75, 0), (75, 1), (2, 0), (19, 0), (4, 0), (23, 0), (4, 2), (23, 2), (1, 5), (12, 5), (13, 5), (14, 5), (15, 5), (16, 5), (17, 5), (18, 5), (3, 1), (20, 1), (21, 1), (22, 1), (11, 0), (1, 1), (12, 1), (13, 1), (14, 1), (15, 1), (16, 1), (17, 1), (18, 1), (1, 2), (12, 2), (13, 2), (14, 2), (15, 2), (16, 2), (17, 2), (18, 2), (37, 0), (38, 0), (39, 0), (6, 0), (8, 0), (31, 0), (32, 0), (33, 0), (34, 0), (35, 0), (36, 0), (28, 0), (29, 0), (5, 0), (24, 0), (25, 0), (26, 0), (27, 0), (2, 1), (19, 1), (4, 1), (23, 1), (40, 0), (41, 0), (1, 3), (12, 3), (13, 3), (14, 3), (15, 3), (16, 3), (17, 3), (18, 3), (1, 4), (12, 4), (13, 4), (14, 4), (15, 4), (16, 4), (17, 4), (18, 4), (10, 0), (42, 0), (43, 0), (44, 0), (45, 0), (46, 0), (47, 0), (48, 0), (49, 0), (50, 0), (51, 0), (52, 0), (53, 0), (54, 0), (55, 0), (56, 0), (57, 0), (58, 0), (59, 0), (60, 0), (61, 0), (62, 0), (63, 0), (64, 0), (65, 0), (66, 0), (67, 0), (68, 0), (69, 0), (70, 0), (71, 0), (72, 0), (73, 0)]
def wJz (B t : Nat) : Nat := B + 133 + 7 * (t - 1)
def wJr (B : Nat) (ex : Nat → Nat) (k i : Nat) : Nat := bif Nat.ble 76 k then ex k else bif g_tx k && Nat.ble 1 i then wJz B i + (bif Nat.beq k 8 then 0 else k - 30) else B + nth (nth offTbl k []) i 0
def wJ (D : va_G) (cA : Nat → ClassId) (B : Nat) (ex : Nat → Nat) : g_W := (D, (cA, (wJr B ex, (fun q => B ≤ q, (fun _ => true, wJz B)))))
theorem wJ_text {B k i : Nat} {ex : Nat → Nat} (hk : g_tx k = true) (hi : 1 ≤ i) : wJr B ex k i = wJz B i + (bif Nat.beq k 8 then 0 else k - 30) := by
  have h76 : Nat.ble 76 k = false := by
    have := g_tx_lt hk
    cases e : Nat.ble 76 k with
    | false => rfl
    | true => have := Nat.le_of_ble_eq_true e; omega
  unfold wJr
  rw [h76, hk, Nat.ble_eq_true_of_le hi]
  rfl
theorem wJ_stat {B k i : Nat} {ex : Nat → Nat} (h76 : k < 76) (hi : g_tx k = true → i = 0) : wJr B ex k i = B + nth (nth offTbl k []) i 0 := by
  have h1 : Nat.ble 76 k = false := by
    cases e : Nat.ble 76 k with
    | false => rfl
    | true => have := Nat.le_of_ble_eq_true e; omega
  have h2 : (g_tx k && Nat.ble 1 i) = false := by
    cases e : g_tx k with
    | false => rfl
    | true => rw [hi e]; rfl
  unfold wJr
  rw [h1, h2]
  rfl
def cntJ (k : Nat) : Nat := bif g_tx k then 1 else nth cntTbl k 0
theorem inv_ok : ∀ k, k < 76 → ∀ i, i < cntJ k → nth invTbl (nth (nth offTbl k []) i 0) (0, 0) = (k, i) ∧ nth (nth offTbl k []) i 0 < 133 := by decide +kernel
theorem wJ_case {D : va_G} {cA : Nat → ClassId} {B k i : Nat} {ex : Nat → Nat} (h76 : k < 76) (h : g_sv (wJ D cA B ex) k i) : (g_tx k = true ∧ 1 ≤ i) ∨ (i < cntJ k ∧ (g_tx k = true → i = 0)) := by
  unfold cntJ
  cases e : g_tx k with
  | true =>
    by_cases hi : 1 ≤ i
    · exact Or.inl ⟨rfl, hi⟩
    · exact Or.inr ⟨show i < 1 by omega, fun _ => by omega⟩
  | false =>
    rcases h.2 with q | q
    · rw [e] at q; cases q
    · exact Or.inr ⟨q, fun z => by cases z⟩
theorem wJ_c {k : Nat} (h : g_tx k = true) : (bif Nat.beq k 8 then 0 else k - 30) ≤ 6 ∧ ∀ k', g_tx k' = true → (bif Nat.beq k 8 then 0 else k - 30) = (bif Nat.beq k' 8 then 0 else k' - 30) → k = k' := by
  have : ∀ k, k < 76 → g_tx k = true → (bif Nat.beq k 8 then 0 else k - 30) ≤ 6 ∧ ∀ k', k' < 76 → g_tx k' = true → (bif Nat.beq k 8 then 0 else k - 30) = (bif Nat.beq k' 8 then 0 else k' - 30) → k = k' := by decide +kernel
  obtain ⟨h1, h2⟩ := this k (g_tx_lt h) h
  exact ⟨h1, fun k' hk' e => h2 k' (g_tx_lt hk') hk' e⟩
theorem wJ_Wk (D : va_G) (cA : Nat → ClassId) (B : Nat) (ex : Nat → Nat) : g_Wk (wJ D cA B ex) := by
  refine ⟨⟨fun k i k' i' hk hk' h h' e => ?_, fun _ t ht => ⟨?_, fun j hj => ?_, ?_, fun q hq => ?_⟩⟩, fun k i h hk => ?_, fun k k' _ => rfl⟩
  · have e : wJr B ex k i = wJr B ex k' i' := e
    rcases wJ_case hk h with ⟨t1, t2⟩ | ⟨t1, t2⟩
    · rcases wJ_case hk' h' with ⟨t3, t4⟩ | ⟨t3, t4⟩
      · rw [wJ_text t1 t2, wJ_text t3 t4] at e
        obtain ⟨c1, c2⟩ := wJ_c t1
        obtain ⟨c3, c4⟩ := wJ_c t3
        unfold wJz at e
        have hc : (bif Nat.beq k 8 then 0 else k - 30) = (bif Nat.beq k' 8 then 0 else k' - 30) := by omega
        exact ⟨c2 k' t3 hc, by omega⟩
      · rw [wJ_text t1 t2, wJ_stat hk' t4] at e
        have := (inv_ok k' hk' i' t3).2
        unfold wJz at e
        omega
    · rcases wJ_case hk' h' with ⟨t3, t4⟩ | ⟨t3, t4⟩
      · rw [wJ_stat hk t2, wJ_text t3 t4] at e
        have := (inv_ok k hk i t1).2
        unfold wJz at e
        omega
      · rw [wJ_stat hk t2, wJ_stat hk' t4] at e
        have e1 := (inv_ok k hk i t1).1
        have e2 := (inv_ok k' hk' i' t3).1
        have eo : nth (nth offTbl k []) i 0 = nth (nth offTbl k' []) i' 0 := by omega
        rw [eo, e2] at e1
        exact ⟨(congrArg Prod.fst e1).symm, (congrArg Prod.snd e1).symm⟩
  · show wJr B ex 8 t = wJz B t
    rw [wJ_text rfl ht]
    rfl
  · show wJr B ex (31 + j) t = wJz B t + 1 + j
    have : ∀ j, j < 6 → g_tx (31 + j) = true ∧ (bif Nat.beq (31 + j) 8 then 0 else 31 + j - 30) = 1 + j := by decide +kernel
    obtain ⟨h1, h2⟩ := this j hj
    rw [wJ_text h1 ht, h2]
    omega
  · show wJz B (t + 1) = wJz B t + 7
    unfold wJz
    omega
  · have hq : wJz B t ≤ q := hq
    show B ≤ q
    unfold wJz at hq
    omega
  · show B ≤ wJr B ex k i
    rcases wJ_case hk h with ⟨t1, t2⟩ | ⟨t1, t2⟩
    · rw [wJ_text t1 t2]; unfold wJz; omega
    · rw [wJ_stat hk t2]; omega
theorem wJ_m (D : va_G) (cA : Nat → ClassId) (B : Nat) (ex : Nat → Nat) : ∀ j, j < 33 → wr (wJ D cA B ex) (mkj j) 0 = B + 100 + j := by
  intro j hj
  have : ∀ j, j < 33 → mkj j < 76 ∧ nth (nth offTbl (mkj j) []) 0 0 = 100 + j := by decide +kernel
  obtain ⟨h1, h2⟩ := this j hj
  show wJr B ex (mkj j) 0 = _
  rw [wJ_stat h1 (fun _ => rfl), h2]
  omega
theorem jc_0 {D : va_G} {cA : Nat → ClassId} {B : Nat} {ex : Nat → Nat} {H : Heap} (h9 : ∀ j e, (cs_9 (wJ D cA B ex) B)[j]? = some e → va_at D vwCl (B + j, e) H) : va_at (wD (wJ D cA B ex)) vwCl (wr (wJ D cA B ex) 9 0, g_cell (wJ D cA B ex) sg0 9 0) H := h9 0 _ rfl
theorem jc_1 {D : va_G} {cA : Nat → ClassId} {B : Nat} {ex : Nat → Nat} {H : Heap} (h9 : ∀ j e, (cs_9 (wJ D cA B ex) B)[j]? = some e → va_at D vwCl (B + j, e) H) : va_at (wD (wJ D cA B ex)) vwCl (wr (wJ D cA B ex) 0 0, g_cell (wJ D cA B ex) sg0 0 0) H := h9 1 _ rfl
theorem jc_2 {D : va_G} {cA : Nat → ClassId} {B : Nat} {ex : Nat → Nat} {H : Heap} (h9 : ∀ j e, (cs_9 (wJ D cA B ex) B)[j]? = some e → va_at D vwCl (B + j, e) H) : va_at (wD (wJ D cA B ex)) vwCl (wr (wJ D cA B ex) 1 0, g_cell (wJ D cA B ex) sg0 1 0) H := h9 2 _ rfl
theorem jc_3 {D : va_G} {cA : Nat → ClassId} {B : Nat} {ex : Nat → Nat} {H : Heap} (h9 : ∀ j e, (cs_9 (wJ D cA B ex) B)[j]? = some e → va_at D vwCl (B + j, e) H) : va_at (wD (wJ D cA B ex)) vwCl (wr (wJ D cA B ex) 12 0, g_cell (wJ D cA B ex) sg0 12 0) H := h9 3 _ rfl
theorem jc_4 {D : va_G} {cA : Nat → ClassId} {B : Nat} {ex : Nat → Nat} {H : Heap} (h9 : ∀ j e, (cs_9 (wJ D cA B ex) B)[j]? = some e → va_at D vwCl (B + j, e) H) : va_at (wD (wJ D cA B ex)) vwCl (wr (wJ D cA B ex) 13 0, g_cell (wJ D cA B ex) sg0 13 0) H := h9 4 _ rfl
theorem jc_5 {D : va_G} {cA : Nat → ClassId} {B : Nat} {ex : Nat → Nat} {H : Heap} (h9 : ∀ j e, (cs_9 (wJ D cA B ex) B)[j]? = some e → va_at D vwCl (B + j, e) H) : va_at (wD (wJ D cA B ex)) vwCl (wr (wJ D cA B ex) 14 0, g_cell (wJ D cA B ex) sg0 14 0) H := h9 5 _ rfl
theorem jc_6 {D : va_G} {cA : Nat → ClassId} {B : Nat} {ex : Nat → Nat} {H : Heap} (h9 : ∀ j e, (cs_9 (wJ D cA B ex) B)[j]? = some e → va_at D vwCl (B + j, e) H) : va_at (wD (wJ D cA B ex)) vwCl (wr (wJ D cA B ex) 15 0, g_cell (wJ D cA B ex) sg0 15 0) H := h9 6 _ rfl
theorem jc_7 {D : va_G} {cA : Nat → ClassId} {B : Nat} {ex : Nat → Nat} {H : Heap} (h9 : ∀ j e, (cs_9 (wJ D cA B ex) B)[j]? = some e → va_at D vwCl (B + j, e) H) : va_at (wD (wJ D cA B ex)) vwCl (wr (wJ D cA B ex) 16 0, g_cell (wJ D cA B ex) sg0 16 0) H := h9 7 _ rfl
theorem jc_8 {D : va_G} {cA : Nat → ClassId} {B : Nat} {ex : Nat → Nat} {H : Heap} (h9 : ∀ j e, (cs_9 (wJ D cA B ex) B)[j]? = some e → va_at D vwCl (B + j, e) H) : va_at (wD (wJ D cA B ex)) vwCl (wr (wJ D cA B ex) 17 0, g_cell (wJ D cA B ex) sg0 17 0) H := h9 8 _ rfl
theorem jc_9 {D : va_G} {cA : Nat → ClassId} {B : Nat} {ex : Nat → Nat} {H : Heap} (h9 : ∀ j e, (cs_9 (wJ D cA B ex) B)[j]? = some e → va_at D vwCl (B + j, e) H) : va_at (wD (wJ D cA B ex)) vwCl (wr (wJ D cA B ex) 18 0, g_cell (wJ D cA B ex) sg0 18 0) H := h9 9 _ rfl
theorem jc_10 {D : va_G} {cA : Nat → ClassId} {B : Nat} {ex : Nat → Nat} {H : Heap} (h9 : ∀ j e, (cs_9 (wJ D cA B ex) B)[j]? = some e → va_at D vwCl (B + j, e) H) : va_at (wD (wJ D cA B ex)) vwCl (wr (wJ D cA B ex) 3 0, g_cell (wJ D cA B ex) sg0 3 0) H := h9 10 _ rfl
theorem jc_11 {D : va_G} {cA : Nat → ClassId} {B : Nat} {ex : Nat → Nat} {H : Heap} (h9 : ∀ j e, (cs_9 (wJ D cA B ex) B)[j]? = some e → va_at D vwCl (B + j, e) H) : va_at (wD (wJ D cA B ex)) vwCl (wr (wJ D cA B ex) 20 0, g_cell (wJ D cA B ex) sg0 20 0) H := h9 11 _ rfl
theorem jc_12 {D : va_G} {cA : Nat → ClassId} {B : Nat} {ex : Nat → Nat} {H : Heap} (h9 : ∀ j e, (cs_9 (wJ D cA B ex) B)[j]? = some e → va_at D vwCl (B + j, e) H) : va_at (wD (wJ D cA B ex)) vwCl (wr (wJ D cA B ex) 21 0, g_cell (wJ D cA B ex) sg0 21 0) H := h9 12 _ rfl
theorem jc_13 {D : va_G} {cA : Nat → ClassId} {B : Nat} {ex : Nat → Nat} {H : Heap} (h9 : ∀ j e, (cs_9 (wJ D cA B ex) B)[j]? = some e → va_at D vwCl (B + j, e) H) : va_at (wD (wJ D cA B ex)) vwCl (wr (wJ D cA B ex) 22 0, g_cell (wJ D cA B ex) sg0 22 0) H := h9 13 _ rfl
theorem jc_14 {D : va_G} {cA : Nat → ClassId} {B : Nat} {ex : Nat → Nat} {H : Heap} (h9 : ∀ j e, (cs_9 (wJ D cA B ex) B)[j]? = some e → va_at D vwCl (B + j, e) H) : va_at (wD (wJ D cA B ex)) vwCl (wr (wJ D cA B ex) 7 0, g_cell (wJ D cA B ex) sg0 7 0) H := h9 14 _ rfl
theorem jc_15 {D : va_G} {cA : Nat → ClassId} {B : Nat} {ex : Nat → Nat} {H : Heap} (h9 : ∀ j e, (cs_9 (wJ D cA B ex) B)[j]? = some e → va_at D vwCl (B + j, e) H) : va_at (wD (wJ D cA B ex)) vwCl (wr (wJ D cA B ex) 30 0, g_cell (wJ D cA B ex) sg0 30 0) H := by
  have ho : H[B + 15]? = some (arrV (cA 6) 7 (fun j => va_rf ((fun j => some (B + 16 + j)) j))) := h9 15 _ rfl
  show H[B + 15]? = some (arrV (cA 6) 7 (fun j => va_rf (some (wr (wJ D cA B ex) 74 j))))
  rw [ho]
  refine congrArg some (g_arrV_congr (fun j hj => ?_))
  match j, hj with
  | 0, _ => rfl
  | 1, _ => rfl
  | 2, _ => rfl
  | 3, _ => rfl
  | 4, _ => rfl
  | 5, _ => rfl
  | 6, _ => rfl
  | j + 7, h => exact absurd h (by omega)
theorem jc_16 {D : va_G} {cA : Nat → ClassId} {B : Nat} {ex : Nat → Nat} {H : Heap} (h9 : ∀ j e, (cs_9 (wJ D cA B ex) B)[j]? = some e → va_at D vwCl (B + j, e) H) : va_at (wD (wJ D cA B ex)) vwCl (wr (wJ D cA B ex) 74 0, g_cell (wJ D cA B ex) sg0 74 0) H := h9 16 _ rfl
theorem jc_17 {D : va_G} {cA : Nat → ClassId} {B : Nat} {ex : Nat → Nat} {H : Heap} (h9 : ∀ j e, (cs_9 (wJ D cA B ex) B)[j]? = some e → va_at D vwCl (B + j, e) H) : va_at (wD (wJ D cA B ex)) vwCl (wr (wJ D cA B ex) 74 1, g_cell (wJ D cA B ex) sg0 74 1) H := h9 17 _ rfl
theorem jc_18 {D : va_G} {cA : Nat → ClassId} {B : Nat} {ex : Nat → Nat} {H : Heap} (h9 : ∀ j e, (cs_9 (wJ D cA B ex) B)[j]? = some e → va_at D vwCl (B + j, e) H) : va_at (wD (wJ D cA B ex)) vwCl (wr (wJ D cA B ex) 74 2, g_cell (wJ D cA B ex) sg0 74 2) H := h9 18 _ rfl
theorem jc_19 {D : va_G} {cA : Nat → ClassId} {B : Nat} {ex : Nat → Nat} {H : Heap} (h9 : ∀ j e, (cs_9 (wJ D cA B ex) B)[j]? = some e → va_at D vwCl (B + j, e) H) : va_at (wD (wJ D cA B ex)) vwCl (wr (wJ D cA B ex) 74 3, g_cell (wJ D cA B ex) sg0 74 3) H := h9 19 _ rfl
theorem jc_20 {D : va_G} {cA : Nat → ClassId} {B : Nat} {ex : Nat → Nat} {H : Heap} (h9 : ∀ j e, (cs_9 (wJ D cA B ex) B)[j]? = some e → va_at D vwCl (B + j, e) H) : va_at (wD (wJ D cA B ex)) vwCl (wr (wJ D cA B ex) 74 4, g_cell (wJ D cA B ex) sg0 74 4) H := h9 20 _ rfl
theorem jc_21 {D : va_G} {cA : Nat → ClassId} {B : Nat} {ex : Nat → Nat} {H : Heap} (h9 : ∀ j e, (cs_9 (wJ D cA B ex) B)[j]? = some e → va_at D vwCl (B + j, e) H) : va_at (wD (wJ D cA B ex)) vwCl (wr (wJ D cA B ex) 74 5, g_cell (wJ D cA B ex) sg0 74 5) H := h9 21 _ rfl
theorem jc_22 {D : va_G} {cA : Nat → ClassId} {B : Nat} {ex : Nat → Nat} {H : Heap} (h9 : ∀ j e, (cs_9 (wJ D cA B ex) B)[j]? = some e → va_at D vwCl (B + j, e) H) : va_at (wD (wJ D cA B ex)) vwCl (wr (wJ D cA B ex) 74 6, g_cell (wJ D cA B ex) sg0 74 6) H := h9 22 _ rfl
theorem jc_23 {D : va_G} {cA : Nat → ClassId} {B : Nat} {ex : Nat → Nat} {H : Heap} (h9 : ∀ j e, (cs_9 (wJ D cA B ex) B)[j]? = some e → va_at D vwCl (B + j, e) H) : va_at (wD (wJ D cA B ex)) vwCl (wr (wJ D cA B ex) 75 0, g_cell (wJ D cA B ex) sg0 75 0) H := h9 23 _ rfl
theorem jc_24 {D : va_G} {cA : Nat → ClassId} {B : Nat} {ex : Nat → Nat} {H : Heap} (h9 : ∀ j e, (cs_9 (wJ D cA B ex) B)[j]? = some e → va_at D vwCl (B + j, e) H) : va_at (wD (wJ D cA B ex)) vwCl (wr (wJ D cA B ex) 75 1, g_cell (wJ D cA B ex) sg0 75 1) H := h9 24 _ rfl
theorem jc_25 {D : va_G} {cA : Nat → ClassId} {B : Nat} {ex : Nat → Nat} {H : Heap} (h9 : ∀ j e, (cs_9 (wJ D cA B ex) B)[j]? = some e → va_at D vwCl (B + j, e) H) : va_at (wD (wJ D cA B ex)) vwCl (wr (wJ D cA B ex) 2 0, g_cell (wJ D cA B ex) sg0 2 0) H := h9 25 _ rfl
theorem jc_26 {D : va_G} {cA : Nat → ClassId} {B : Nat} {ex : Nat → Nat} {H : Heap} (h9 : ∀ j e, (cs_9 (wJ D cA B ex) B)[j]? = some e → va_at D vwCl (B + j, e) H) : va_at (wD (wJ D cA B ex)) vwCl (wr (wJ D cA B ex) 19 0, g_cell (wJ D cA B ex) sg0 19 0) H := h9 26 _ rfl
theorem jc_27 {D : va_G} {cA : Nat → ClassId} {B : Nat} {ex : Nat → Nat} {H : Heap} (h9 : ∀ j e, (cs_9 (wJ D cA B ex) B)[j]? = some e → va_at D vwCl (B + j, e) H) : va_at (wD (wJ D cA B ex)) vwCl (wr (wJ D cA B ex) 4 0, g_cell (wJ D cA B ex) sg0 4 0) H := h9 27 _ rfl
theorem jc_28 {D : va_G} {cA : Nat → ClassId} {B : Nat} {ex : Nat → Nat} {H : Heap} (h9 : ∀ j e, (cs_9 (wJ D cA B ex) B)[j]? = some e → va_at D vwCl (B + j, e) H) : va_at (wD (wJ D cA B ex)) vwCl (wr (wJ D cA B ex) 23 0, g_cell (wJ D cA B ex) sg0 23 0) H := h9 28 _ rfl
theorem jc_29 {D : va_G} {cA : Nat → ClassId} {B : Nat} {ex : Nat → Nat} {H : Heap} (h9 : ∀ j e, (cs_9 (wJ D cA B ex) B)[j]? = some e → va_at D vwCl (B + j, e) H) : va_at (wD (wJ D cA B ex)) vwCl (wr (wJ D cA B ex) 4 2, g_cell (wJ D cA B ex) sg0 4 2) H := h9 29 _ rfl
theorem jc_30 {D : va_G} {cA : Nat → ClassId} {B : Nat} {ex : Nat → Nat} {H : Heap} (h9 : ∀ j e, (cs_9 (wJ D cA B ex) B)[j]? = some e → va_at D vwCl (B + j, e) H) : va_at (wD (wJ D cA B ex)) vwCl (wr (wJ D cA B ex) 23 2, g_cell (wJ D cA B ex) sg0 23 2) H := h9 30 _ rfl
theorem jc_31 {D : va_G} {cA : Nat → ClassId} {B : Nat} {ex : Nat → Nat} {H : Heap} (h9 : ∀ j e, (cs_9 (wJ D cA B ex) B)[j]? = some e → va_at D vwCl (B + j, e) H) : va_at (wD (wJ D cA B ex)) vwCl (wr (wJ D cA B ex) 1 5, g_cell (wJ D cA B ex) sg0 1 5) H := h9 31 _ rfl
theorem jc_32 {D : va_G} {cA : Nat → ClassId} {B : Nat} {ex : Nat → Nat} {H : Heap} (h9 : ∀ j e, (cs_9 (wJ D cA B ex) B)[j]? = some e → va_at D vwCl (B + j, e) H) : va_at (wD (wJ D cA B ex)) vwCl (wr (wJ D cA B ex) 12 5, g_cell (wJ D cA B ex) sg0 12 5) H := h9 32 _ rfl
theorem jc_33 {D : va_G} {cA : Nat → ClassId} {B : Nat} {ex : Nat → Nat} {H : Heap} (h9 : ∀ j e, (cs_9 (wJ D cA B ex) B)[j]? = some e → va_at D vwCl (B + j, e) H) : va_at (wD (wJ D cA B ex)) vwCl (wr (wJ D cA B ex) 13 5, g_cell (wJ D cA B ex) sg0 13 5) H := h9 33 _ rfl
theorem jc_34 {D : va_G} {cA : Nat → ClassId} {B : Nat} {ex : Nat → Nat} {H : Heap} (h9 : ∀ j e, (cs_9 (wJ D cA B ex) B)[j]? = some e → va_at D vwCl (B + j, e) H) : va_at (wD (wJ D cA B ex)) vwCl (wr (wJ D cA B ex) 14 5, g_cell (wJ D cA B ex) sg0 14 5) H := h9 34 _ rfl
theorem jc_35 {D : va_G} {cA : Nat → ClassId} {B : Nat} {ex : Nat → Nat} {H : Heap} (h9 : ∀ j e, (cs_9 (wJ D cA B ex) B)[j]? = some e → va_at D vwCl (B + j, e) H) : va_at (wD (wJ D cA B ex)) vwCl (wr (wJ D cA B ex) 15 5, g_cell (wJ D cA B ex) sg0 15 5) H := h9 35 _ rfl
theorem jc_36 {D : va_G} {cA : Nat → ClassId} {B : Nat} {ex : Nat → Nat} {H : Heap} (h9 : ∀ j e, (cs_9 (wJ D cA B ex) B)[j]? = some e → va_at D vwCl (B + j, e) H) : va_at (wD (wJ D cA B ex)) vwCl (wr (wJ D cA B ex) 16 5, g_cell (wJ D cA B ex) sg0 16 5) H := h9 36 _ rfl
theorem jc_37 {D : va_G} {cA : Nat → ClassId} {B : Nat} {ex : Nat → Nat} {H : Heap} (h9 : ∀ j e, (cs_9 (wJ D cA B ex) B)[j]? = some e → va_at D vwCl (B + j, e) H) : va_at (wD (wJ D cA B ex)) vwCl (wr (wJ D cA B ex) 17 5, g_cell (wJ D cA B ex) sg0 17 5) H := h9 37 _ rfl
theorem jc_38 {D : va_G} {cA : Nat → ClassId} {B : Nat} {ex : Nat → Nat} {H : Heap} (h9 : ∀ j e, (cs_9 (wJ D cA B ex) B)[j]? = some e → va_at D vwCl (B + j, e) H) : va_at (wD (wJ D cA B ex)) vwCl (wr (wJ D cA B ex) 18 5, g_cell (wJ D cA B ex) sg0 18 5) H := h9 38 _ rfl
theorem jc_39 {D : va_G} {cA : Nat → ClassId} {B : Nat} {ex : Nat → Nat} {H : Heap} (h9 : ∀ j e, (cs_9 (wJ D cA B ex) B)[j]? = some e → va_at D vwCl (B + j, e) H) : va_at (wD (wJ D cA B ex)) vwCl (wr (wJ D cA B ex) 3 1, g_cell (wJ D cA B ex) sg0 3 1) H := h9 39 _ rfl
theorem jc_40 {D : va_G} {cA : Nat → ClassId} {B : Nat} {ex : Nat → Nat} {H : Heap} (h9 : ∀ j e, (cs_9 (wJ D cA B ex) B)[j]? = some e → va_at D vwCl (B + j, e) H) : va_at (wD (wJ D cA B ex)) vwCl (wr (wJ D cA B ex) 20 1, g_cell (wJ D cA B ex) sg0 20 1) H := h9 40 _ rfl
theorem jc_41 {D : va_G} {cA : Nat → ClassId} {B : Nat} {ex : Nat → Nat} {H : Heap} (h9 : ∀ j e, (cs_9 (wJ D cA B ex) B)[j]? = some e → va_at D vwCl (B + j, e) H) : va_at (wD (wJ D cA B ex)) vwCl (wr (wJ D cA B ex) 21 1, g_cell (wJ D cA B ex) sg0 21 1) H := h9 41 _ rfl
theorem jc_42 {D : va_G} {cA : Nat → ClassId} {B : Nat} {ex : Nat → Nat} {H : Heap} (h9 : ∀ j e, (cs_9 (wJ D cA B ex) B)[j]? = some e → va_at D vwCl (B + j, e) H) : va_at (wD (wJ D cA B ex)) vwCl (wr (wJ D cA B ex) 22 1, g_cell (wJ D cA B ex) sg0 22 1) H := h9 42 _ rfl
theorem jc_43 {D : va_G} {cA : Nat → ClassId} {B : Nat} {ex : Nat → Nat} {H : Heap} (h9 : ∀ j e, (cs_9 (wJ D cA B ex) B)[j]? = some e → va_at D vwCl (B + j, e) H) : va_at (wD (wJ D cA B ex)) vwCl (wr (wJ D cA B ex) 11 0, g_cell (wJ D cA B ex) sg0 11 0) H := h9 43 _ rfl
theorem jc_44 {D : va_G} {cA : Nat → ClassId} {B : Nat} {ex : Nat → Nat} {H : Heap} (h9 : ∀ j e, (cs_9 (wJ D cA B ex) B)[j]? = some e → va_at D vwCl (B + j, e) H) : va_at (wD (wJ D cA B ex)) vwCl (wr (wJ D cA B ex) 1 1, g_cell (wJ D cA B ex) sg0 1 1) H := h9 44 _ rfl
theorem jc_45 {D : va_G} {cA : Nat → ClassId} {B : Nat} {ex : Nat → Nat} {H : Heap} (h9 : ∀ j e, (cs_9 (wJ D cA B ex) B)[j]? = some e → va_at D vwCl (B + j, e) H) : va_at (wD (wJ D cA B ex)) vwCl (wr (wJ D cA B ex) 12 1, g_cell (wJ D cA B ex) sg0 12 1) H := h9 45 _ rfl
theorem jc_46 {D : va_G} {cA : Nat → ClassId} {B : Nat} {ex : Nat → Nat} {H : Heap} (h9 : ∀ j e, (cs_9 (wJ D cA B ex) B)[j]? = some e → va_at D vwCl (B + j, e) H) : va_at (wD (wJ D cA B ex)) vwCl (wr (wJ D cA B ex) 13 1, g_cell (wJ D cA B ex) sg0 13 1) H := h9 46 _ rfl
theorem jc_47 {D : va_G} {cA : Nat → ClassId} {B : Nat} {ex : Nat → Nat} {H : Heap} (h9 : ∀ j e, (cs_9 (wJ D cA B ex) B)[j]? = some e → va_at D vwCl (B + j, e) H) : va_at (wD (wJ D cA B ex)) vwCl (wr (wJ D cA B ex) 14 1, g_cell (wJ D cA B ex) sg0 14 1) H := h9 47 _ rfl
theorem jc_48 {D : va_G} {cA : Nat → ClassId} {B : Nat} {ex : Nat → Nat} {H : Heap} (h9 : ∀ j e, (cs_9 (wJ D cA B ex) B)[j]? = some e → va_at D vwCl (B + j, e) H) : va_at (wD (wJ D cA B ex)) vwCl (wr (wJ D cA B ex) 15 1, g_cell (wJ D cA B ex) sg0 15 1) H := h9 48 _ rfl
theorem jc_49 {D : va_G} {cA : Nat → ClassId} {B : Nat} {ex : Nat → Nat} {H : Heap} (h9 : ∀ j e, (cs_9 (wJ D cA B ex) B)[j]? = some e → va_at D vwCl (B + j, e) H) : va_at (wD (wJ D cA B ex)) vwCl (wr (wJ D cA B ex) 16 1, g_cell (wJ D cA B ex) sg0 16 1) H := h9 49 _ rfl
theorem jc_50 {D : va_G} {cA : Nat → ClassId} {B : Nat} {ex : Nat → Nat} {H : Heap} (h9 : ∀ j e, (cs_9 (wJ D cA B ex) B)[j]? = some e → va_at D vwCl (B + j, e) H) : va_at (wD (wJ D cA B ex)) vwCl (wr (wJ D cA B ex) 17 1, g_cell (wJ D cA B ex) sg0 17 1) H := h9 50 _ rfl
theorem jc_51 {D : va_G} {cA : Nat → ClassId} {B : Nat} {ex : Nat → Nat} {H : Heap} (h9 : ∀ j e, (cs_9 (wJ D cA B ex) B)[j]? = some e → va_at D vwCl (B + j, e) H) : va_at (wD (wJ D cA B ex)) vwCl (wr (wJ D cA B ex) 18 1, g_cell (wJ D cA B ex) sg0 18 1) H := h9 51 _ rfl
theorem jc_52 {D : va_G} {cA : Nat → ClassId} {B : Nat} {ex : Nat → Nat} {H : Heap} (h9 : ∀ j e, (cs_9 (wJ D cA B ex) B)[j]? = some e → va_at D vwCl (B + j, e) H) : va_at (wD (wJ D cA B ex)) vwCl (wr (wJ D cA B ex) 1 2, g_cell (wJ D cA B ex) sg0 1 2) H := h9 52 _ rfl
theorem jc_53 {D : va_G} {cA : Nat → ClassId} {B : Nat} {ex : Nat → Nat} {H : Heap} (h9 : ∀ j e, (cs_9 (wJ D cA B ex) B)[j]? = some e → va_at D vwCl (B + j, e) H) : va_at (wD (wJ D cA B ex)) vwCl (wr (wJ D cA B ex) 12 2, g_cell (wJ D cA B ex) sg0 12 2) H := h9 53 _ rfl
theorem jc_54 {D : va_G} {cA : Nat → ClassId} {B : Nat} {ex : Nat → Nat} {H : Heap} (h9 : ∀ j e, (cs_9 (wJ D cA B ex) B)[j]? = some e → va_at D vwCl (B + j, e) H) : va_at (wD (wJ D cA B ex)) vwCl (wr (wJ D cA B ex) 13 2, g_cell (wJ D cA B ex) sg0 13 2) H := h9 54 _ rfl
theorem jc_55 {D : va_G} {cA : Nat → ClassId} {B : Nat} {ex : Nat → Nat} {H : Heap} (h9 : ∀ j e, (cs_9 (wJ D cA B ex) B)[j]? = some e → va_at D vwCl (B + j, e) H) : va_at (wD (wJ D cA B ex)) vwCl (wr (wJ D cA B ex) 14 2, g_cell (wJ D cA B ex) sg0 14 2) H := h9 55 _ rfl
theorem jc_56 {D : va_G} {cA : Nat → ClassId} {B : Nat} {ex : Nat → Nat} {H : Heap} (h9 : ∀ j e, (cs_9 (wJ D cA B ex) B)[j]? = some e → va_at D vwCl (B + j, e) H) : va_at (wD (wJ D cA B ex)) vwCl (wr (wJ D cA B ex) 15 2, g_cell (wJ D cA B ex) sg0 15 2) H := h9 56 _ rfl
theorem jc_57 {D : va_G} {cA : Nat → ClassId} {B : Nat} {ex : Nat → Nat} {H : Heap} (h9 : ∀ j e, (cs_9 (wJ D cA B ex) B)[j]? = some e → va_at D vwCl (B + j, e) H) : va_at (wD (wJ D cA B ex)) vwCl (wr (wJ D cA B ex) 16 2, g_cell (wJ D cA B ex) sg0 16 2) H := h9 57 _ rfl
theorem jc_58 {D : va_G} {cA : Nat → ClassId} {B : Nat} {ex : Nat → Nat} {H : Heap} (h9 : ∀ j e, (cs_9 (wJ D cA B ex) B)[j]? = some e → va_at D vwCl (B + j, e) H) : va_at (wD (wJ D cA B ex)) vwCl (wr (wJ D cA B ex) 17 2, g_cell (wJ D cA B ex) sg0 17 2) H := h9 58 _ rfl
theorem jc_59 {D : va_G} {cA : Nat → ClassId} {B : Nat} {ex : Nat → Nat} {H : Heap} (h9 : ∀ j e, (cs_9 (wJ D cA B ex) B)[j]? = some e → va_at D vwCl (B + j, e) H) : va_at (wD (wJ D cA B ex)) vwCl (wr (wJ D cA B ex) 18 2, g_cell (wJ D cA B ex) sg0 18 2) H := h9 59 _ rfl
theorem jc_60 {D : va_G} {cA : Nat → ClassId} {B : Nat} {ex : Nat → Nat} {H : Heap} (h9 : ∀ j e, (cs_9 (wJ D cA B ex) B)[j]? = some e → va_at D vwCl (B + j, e) H) : va_at (wD (wJ D cA B ex)) vwCl (wr (wJ D cA B ex) 37 0, g_cell (wJ D cA B ex) sg0 37 0) H := by
  have ho : H[B + 60]? = some (arrV (cA 5) 2 (fun j => va_rf ((va_up (va_up (fun _ => none) (0 : Int32).toNatClampNeg (some (B + 84))) (1 : Int32).toNatClampNeg (some (B + 92))) j))) := h9 60 _ rfl
  show H[B + 60]? = some (arrV (cA 5) 2 (fun j => va_rf (some (wr (wJ D cA B ex) 1 (3 + j)))))
  rw [ho]
  refine congrArg some (g_arrV_congr (fun j hj => ?_))
  match j, hj with
  | 0, _ => rfl
  | 1, _ => rfl
  | j + 2, h => exact absurd h (by omega)
theorem jc_61 {D : va_G} {cA : Nat → ClassId} {B : Nat} {ex : Nat → Nat} {H : Heap} (h9 : ∀ j e, (cs_9 (wJ D cA B ex) B)[j]? = some e → va_at D vwCl (B + j, e) H) : va_at (wD (wJ D cA B ex)) vwCl (wr (wJ D cA B ex) 38 0, g_cell (wJ D cA B ex) sg0 38 0) H := h9 61 _ rfl
theorem jc_62 {D : va_G} {cA : Nat → ClassId} {B : Nat} {ex : Nat → Nat} {H : Heap} (h9 : ∀ j e, (cs_9 (wJ D cA B ex) B)[j]? = some e → va_at D vwCl (B + j, e) H) : va_at (wD (wJ D cA B ex)) vwCl (wr (wJ D cA B ex) 39 0, g_cell (wJ D cA B ex) sg0 39 0) H := h9 62 _ rfl
theorem jc_63 {D : va_G} {cA : Nat → ClassId} {B : Nat} {ex : Nat → Nat} {H : Heap} (h9 : ∀ j e, (cs_9 (wJ D cA B ex) B)[j]? = some e → va_at D vwCl (B + j, e) H) : va_at (wD (wJ D cA B ex)) vwCl (wr (wJ D cA B ex) 6 0, g_cell (wJ D cA B ex) sg0 6 0) H := h9 63 _ rfl
theorem jc_64 {D : va_G} {cA : Nat → ClassId} {B : Nat} {ex : Nat → Nat} {H : Heap} (h9 : ∀ j e, (cs_9 (wJ D cA B ex) B)[j]? = some e → va_at D vwCl (B + j, e) H) : va_at (wD (wJ D cA B ex)) vwCl (wr (wJ D cA B ex) 8 0, g_cell (wJ D cA B ex) sg0 8 0) H := h9 64 _ rfl
theorem jc_65 {D : va_G} {cA : Nat → ClassId} {B : Nat} {ex : Nat → Nat} {H : Heap} (h9 : ∀ j e, (cs_9 (wJ D cA B ex) B)[j]? = some e → va_at D vwCl (B + j, e) H) : va_at (wD (wJ D cA B ex)) vwCl (wr (wJ D cA B ex) 31 0, g_cell (wJ D cA B ex) sg0 31 0) H := h9 65 _ rfl
theorem jc_66 {D : va_G} {cA : Nat → ClassId} {B : Nat} {ex : Nat → Nat} {H : Heap} (h9 : ∀ j e, (cs_9 (wJ D cA B ex) B)[j]? = some e → va_at D vwCl (B + j, e) H) : va_at (wD (wJ D cA B ex)) vwCl (wr (wJ D cA B ex) 32 0, g_cell (wJ D cA B ex) sg0 32 0) H := h9 66 _ rfl
theorem jc_67 {D : va_G} {cA : Nat → ClassId} {B : Nat} {ex : Nat → Nat} {H : Heap} (h9 : ∀ j e, (cs_9 (wJ D cA B ex) B)[j]? = some e → va_at D vwCl (B + j, e) H) : va_at (wD (wJ D cA B ex)) vwCl (wr (wJ D cA B ex) 33 0, g_cell (wJ D cA B ex) sg0 33 0) H := h9 67 _ rfl
theorem jc_68 {D : va_G} {cA : Nat → ClassId} {B : Nat} {ex : Nat → Nat} {H : Heap} (h9 : ∀ j e, (cs_9 (wJ D cA B ex) B)[j]? = some e → va_at D vwCl (B + j, e) H) : va_at (wD (wJ D cA B ex)) vwCl (wr (wJ D cA B ex) 34 0, g_cell (wJ D cA B ex) sg0 34 0) H := h9 68 _ rfl
theorem jc_69 {D : va_G} {cA : Nat → ClassId} {B : Nat} {ex : Nat → Nat} {H : Heap} (h9 : ∀ j e, (cs_9 (wJ D cA B ex) B)[j]? = some e → va_at D vwCl (B + j, e) H) : va_at (wD (wJ D cA B ex)) vwCl (wr (wJ D cA B ex) 35 0, g_cell (wJ D cA B ex) sg0 35 0) H := h9 69 _ rfl
theorem jc_70 {D : va_G} {cA : Nat → ClassId} {B : Nat} {ex : Nat → Nat} {H : Heap} (h9 : ∀ j e, (cs_9 (wJ D cA B ex) B)[j]? = some e → va_at D vwCl (B + j, e) H) : va_at (wD (wJ D cA B ex)) vwCl (wr (wJ D cA B ex) 36 0, g_cell (wJ D cA B ex) sg0 36 0) H := h9 70 _ rfl
theorem jc_71 {D : va_G} {cA : Nat → ClassId} {B : Nat} {ex : Nat → Nat} {H : Heap} (h9 : ∀ j e, (cs_9 (wJ D cA B ex) B)[j]? = some e → va_at D vwCl (B + j, e) H) : va_at (wD (wJ D cA B ex)) vwCl (wr (wJ D cA B ex) 28 0, g_cell (wJ D cA B ex) sg0 28 0) H := h9 71 _ rfl
theorem jc_72 {D : va_G} {cA : Nat → ClassId} {B : Nat} {ex : Nat → Nat} {H : Heap} (h9 : ∀ j e, (cs_9 (wJ D cA B ex) B)[j]? = some e → va_at D vwCl (B + j, e) H) : va_at (wD (wJ D cA B ex)) vwCl (wr (wJ D cA B ex) 29 0, g_cell (wJ D cA B ex) sg0 29 0) H := h9 72 _ rfl
theorem jc_73 {D : va_G} {cA : Nat → ClassId} {B : Nat} {ex : Nat → Nat} {H : Heap} (h9 : ∀ j e, (cs_9 (wJ D cA B ex) B)[j]? = some e → va_at D vwCl (B + j, e) H) : va_at (wD (wJ D cA B ex)) vwCl (wr (wJ D cA B ex) 5 0, g_cell (wJ D cA B ex) sg0 5 0) H := h9 73 _ rfl
theorem jc_74 {D : va_G} {cA : Nat → ClassId} {B : Nat} {ex : Nat → Nat} {H : Heap} (h9 : ∀ j e, (cs_9 (wJ D cA B ex) B)[j]? = some e → va_at D vwCl (B + j, e) H) : va_at (wD (wJ D cA B ex)) vwCl (wr (wJ D cA B ex) 24 0, g_cell (wJ D cA B ex) sg0 24 0) H := h9 74 _ rfl
theorem jc_75 {D : va_G} {cA : Nat → ClassId} {B : Nat} {ex : Nat → Nat} {H : Heap} (h9 : ∀ j e, (cs_9 (wJ D cA B ex) B)[j]? = some e → va_at D vwCl (B + j, e) H) : va_at (wD (wJ D cA B ex)) vwCl (wr (wJ D cA B ex) 25 0, g_cell (wJ D cA B ex) sg0 25 0) H := h9 75 _ rfl
theorem jc_76 {D : va_G} {cA : Nat → ClassId} {B : Nat} {ex : Nat → Nat} {H : Heap} (h9 : ∀ j e, (cs_9 (wJ D cA B ex) B)[j]? = some e → va_at D vwCl (B + j, e) H) : va_at (wD (wJ D cA B ex)) vwCl (wr (wJ D cA B ex) 26 0, g_cell (wJ D cA B ex) sg0 26 0) H := h9 76 _ rfl
theorem jc_77 {D : va_G} {cA : Nat → ClassId} {B : Nat} {ex : Nat → Nat} {H : Heap} (h9 : ∀ j e, (cs_9 (wJ D cA B ex) B)[j]? = some e → va_at D vwCl (B + j, e) H) : va_at (wD (wJ D cA B ex)) vwCl (wr (wJ D cA B ex) 27 0, g_cell (wJ D cA B ex) sg0 27 0) H := h9 77 _ rfl
theorem jc_78 {D : va_G} {cA : Nat → ClassId} {B : Nat} {ex : Nat → Nat} {H : Heap} (h9 : ∀ j e, (cs_9 (wJ D cA B ex) B)[j]? = some e → va_at D vwCl (B + j, e) H) : va_at (wD (wJ D cA B ex)) vwCl (wr (wJ D cA B ex) 2 1, g_cell (wJ D cA B ex) sg0 2 1) H := h9 78 _ rfl
theorem jc_79 {D : va_G} {cA : Nat → ClassId} {B : Nat} {ex : Nat → Nat} {H : Heap} (h9 : ∀ j e, (cs_9 (wJ D cA B ex) B)[j]? = some e → va_at D vwCl (B + j, e) H) : va_at (wD (wJ D cA B ex)) vwCl (wr (wJ D cA B ex) 19 1, g_cell (wJ D cA B ex) sg0 19 1) H := h9 79 _ rfl
theorem jc_80 {D : va_G} {cA : Nat → ClassId} {B : Nat} {ex : Nat → Nat} {H : Heap} (h9 : ∀ j e, (cs_9 (wJ D cA B ex) B)[j]? = some e → va_at D vwCl (B + j, e) H) : va_at (wD (wJ D cA B ex)) vwCl (wr (wJ D cA B ex) 4 1, g_cell (wJ D cA B ex) sg0 4 1) H := h9 80 _ rfl
theorem jc_81 {D : va_G} {cA : Nat → ClassId} {B : Nat} {ex : Nat → Nat} {H : Heap} (h9 : ∀ j e, (cs_9 (wJ D cA B ex) B)[j]? = some e → va_at D vwCl (B + j, e) H) : va_at (wD (wJ D cA B ex)) vwCl (wr (wJ D cA B ex) 23 1, g_cell (wJ D cA B ex) sg0 23 1) H := h9 81 _ rfl
theorem jc_82 {D : va_G} {cA : Nat → ClassId} {B : Nat} {ex : Nat → Nat} {H : Heap} (h9 : ∀ j e, (cs_9 (wJ D cA B ex) B)[j]? = some e → va_at D vwCl (B + j, e) H) : va_at (wD (wJ D cA B ex)) vwCl (wr (wJ D cA B ex) 40 0, g_cell (wJ D cA B ex) sg0 40 0) H := h9 82 _ rfl
theorem jc_83 {D : va_G} {cA : Nat → ClassId} {B : Nat} {ex : Nat → Nat} {H : Heap} (h9 : ∀ j e, (cs_9 (wJ D cA B ex) B)[j]? = some e → va_at D vwCl (B + j, e) H) : va_at (wD (wJ D cA B ex)) vwCl (wr (wJ D cA B ex) 41 0, g_cell (wJ D cA B ex) sg0 41 0) H := h9 83 _ rfl
theorem jc_84 {D : va_G} {cA : Nat → ClassId} {B : Nat} {ex : Nat → Nat} {H : Heap} (h9 : ∀ j e, (cs_9 (wJ D cA B ex) B)[j]? = some e → va_at D vwCl (B + j, e) H) : va_at (wD (wJ D cA B ex)) vwCl (wr (wJ D cA B ex) 1 3, g_cell (wJ D cA B ex) sg0 1 3) H := h9 84 _ rfl
theorem jc_85 {D : va_G} {cA : Nat → ClassId} {B : Nat} {ex : Nat → Nat} {H : Heap} (h9 : ∀ j e, (cs_9 (wJ D cA B ex) B)[j]? = some e → va_at D vwCl (B + j, e) H) : va_at (wD (wJ D cA B ex)) vwCl (wr (wJ D cA B ex) 12 3, g_cell (wJ D cA B ex) sg0 12 3) H := h9 85 _ rfl
theorem jc_86 {D : va_G} {cA : Nat → ClassId} {B : Nat} {ex : Nat → Nat} {H : Heap} (h9 : ∀ j e, (cs_9 (wJ D cA B ex) B)[j]? = some e → va_at D vwCl (B + j, e) H) : va_at (wD (wJ D cA B ex)) vwCl (wr (wJ D cA B ex) 13 3, g_cell (wJ D cA B ex) sg0 13 3) H := h9 86 _ rfl
theorem jc_87 {D : va_G} {cA : Nat → ClassId} {B : Nat} {ex : Nat → Nat} {H : Heap} (h9 : ∀ j e, (cs_9 (wJ D cA B ex) B)[j]? = some e → va_at D vwCl (B + j, e) H) : va_at (wD (wJ D cA B ex)) vwCl (wr (wJ D cA B ex) 14 3, g_cell (wJ D cA B ex) sg0 14 3) H := h9 87 _ rfl
theorem jc_88 {D : va_G} {cA : Nat → ClassId} {B : Nat} {ex : Nat → Nat} {H : Heap} (h9 : ∀ j e, (cs_9 (wJ D cA B ex) B)[j]? = some e → va_at D vwCl (B + j, e) H) : va_at (wD (wJ D cA B ex)) vwCl (wr (wJ D cA B ex) 15 3, g_cell (wJ D cA B ex) sg0 15 3) H := h9 88 _ rfl
theorem jc_89 {D : va_G} {cA : Nat → ClassId} {B : Nat} {ex : Nat → Nat} {H : Heap} (h9 : ∀ j e, (cs_9 (wJ D cA B ex) B)[j]? = some e → va_at D vwCl (B + j, e) H) : va_at (wD (wJ D cA B ex)) vwCl (wr (wJ D cA B ex) 16 3, g_cell (wJ D cA B ex) sg0 16 3) H := h9 89 _ rfl
theorem jc_90 {D : va_G} {cA : Nat → ClassId} {B : Nat} {ex : Nat → Nat} {H : Heap} (h9 : ∀ j e, (cs_9 (wJ D cA B ex) B)[j]? = some e → va_at D vwCl (B + j, e) H) : va_at (wD (wJ D cA B ex)) vwCl (wr (wJ D cA B ex) 17 3, g_cell (wJ D cA B ex) sg0 17 3) H := h9 90 _ rfl
theorem jc_91 {D : va_G} {cA : Nat → ClassId} {B : Nat} {ex : Nat → Nat} {H : Heap} (h9 : ∀ j e, (cs_9 (wJ D cA B ex) B)[j]? = some e → va_at D vwCl (B + j, e) H) : va_at (wD (wJ D cA B ex)) vwCl (wr (wJ D cA B ex) 18 3, g_cell (wJ D cA B ex) sg0 18 3) H := h9 91 _ rfl
theorem jc_92 {D : va_G} {cA : Nat → ClassId} {B : Nat} {ex : Nat → Nat} {H : Heap} (h9 : ∀ j e, (cs_9 (wJ D cA B ex) B)[j]? = some e → va_at D vwCl (B + j, e) H) : va_at (wD (wJ D cA B ex)) vwCl (wr (wJ D cA B ex) 1 4, g_cell (wJ D cA B ex) sg0 1 4) H := h9 92 _ rfl
theorem jc_93 {D : va_G} {cA : Nat → ClassId} {B : Nat} {ex : Nat → Nat} {H : Heap} (h9 : ∀ j e, (cs_9 (wJ D cA B ex) B)[j]? = some e → va_at D vwCl (B + j, e) H) : va_at (wD (wJ D cA B ex)) vwCl (wr (wJ D cA B ex) 12 4, g_cell (wJ D cA B ex) sg0 12 4) H := h9 93 _ rfl
theorem jc_94 {D : va_G} {cA : Nat → ClassId} {B : Nat} {ex : Nat → Nat} {H : Heap} (h9 : ∀ j e, (cs_9 (wJ D cA B ex) B)[j]? = some e → va_at D vwCl (B + j, e) H) : va_at (wD (wJ D cA B ex)) vwCl (wr (wJ D cA B ex) 13 4, g_cell (wJ D cA B ex) sg0 13 4) H := h9 94 _ rfl
theorem jc_95 {D : va_G} {cA : Nat → ClassId} {B : Nat} {ex : Nat → Nat} {H : Heap} (h9 : ∀ j e, (cs_9 (wJ D cA B ex) B)[j]? = some e → va_at D vwCl (B + j, e) H) : va_at (wD (wJ D cA B ex)) vwCl (wr (wJ D cA B ex) 14 4, g_cell (wJ D cA B ex) sg0 14 4) H := h9 95 _ rfl
theorem jc_96 {D : va_G} {cA : Nat → ClassId} {B : Nat} {ex : Nat → Nat} {H : Heap} (h9 : ∀ j e, (cs_9 (wJ D cA B ex) B)[j]? = some e → va_at D vwCl (B + j, e) H) : va_at (wD (wJ D cA B ex)) vwCl (wr (wJ D cA B ex) 15 4, g_cell (wJ D cA B ex) sg0 15 4) H := h9 96 _ rfl
theorem jc_97 {D : va_G} {cA : Nat → ClassId} {B : Nat} {ex : Nat → Nat} {H : Heap} (h9 : ∀ j e, (cs_9 (wJ D cA B ex) B)[j]? = some e → va_at D vwCl (B + j, e) H) : va_at (wD (wJ D cA B ex)) vwCl (wr (wJ D cA B ex) 16 4, g_cell (wJ D cA B ex) sg0 16 4) H := h9 97 _ rfl
theorem jc_98 {D : va_G} {cA : Nat → ClassId} {B : Nat} {ex : Nat → Nat} {H : Heap} (h9 : ∀ j e, (cs_9 (wJ D cA B ex) B)[j]? = some e → va_at D vwCl (B + j, e) H) : va_at (wD (wJ D cA B ex)) vwCl (wr (wJ D cA B ex) 17 4, g_cell (wJ D cA B ex) sg0 17 4) H := h9 98 _ rfl
theorem jc_99 {D : va_G} {cA : Nat → ClassId} {B : Nat} {ex : Nat → Nat} {H : Heap} (h9 : ∀ j e, (cs_9 (wJ D cA B ex) B)[j]? = some e → va_at D vwCl (B + j, e) H) : va_at (wD (wJ D cA B ex)) vwCl (wr (wJ D cA B ex) 18 4, g_cell (wJ D cA B ex) sg0 18 4) H := h9 99 _ rfl
def jT : List (Nat × Nat × Nat) := [(9, 0, 0), (0, 0, 1), (1, 0, 2), (12, 0, 3), (13, 0, 4), (14, 0, 5), (15, 0, 6), (16, 0, 7), (17, 0, 8), (18, 0, 9), (3, 0, 10), (20, 0, 11), (21, 0, 12), (22, 0, 13), (7, 0, 14), (30, 0, 15), (74, 0, 16), (74, 1, 17), (74, 2, 18), (74, 3, 19), (74, 4, 20), (74, 5, 21), (74, 6, 22), (75, 0, 23), (75, 1, 24), (2, 0, 25), (19, 0, 26), (4, 0, 27), (23, 0, 28), (4, 2, 29), (23, 2, 30), (1, 5, 31), (12, 5, 32), (13, 5, 33), (14, 5, 34), (15, 5, 35), (16, 5, 36), (17, 5, 37), (18, 5, 38), (3, 1, 39), (20, 1, 40), (21, 1, 41), (22, 1, 42), (11, 0, 43), (1, 1, 44), (12, 1, 45), (13, 1, 46), (14, 1, 47), (15, 1, 48), (16, 1, 49), (17, 1, 50), (18, 1, 51), (1, 2, 52), (12, 2, 53), (13, 2, 54), (14, 2, 55), (15, 2, 56), (16, 2, 57), (17, 2, 58), (18, 2, 59), (37, 0, 60), (38, 0, 61), (39, 0, 62), (6, 0, 63), (8, 0, 64), (31, 0, 65), (32, 0, 66), (33, 0, 67), (34, 0, 68), (35, 0, 69), (36, 0, 70), (28, 0, 71), (29, 0, 72), (5, 0, 73), (24, 0, 74), (25, 0, 75), (26, 0, 76), (27, 0, 77), (2, 1, 78), (19, 1, 79), (4, 1, 80), (23, 1, 81), (40, 0, 82), (41, 0, 83), (1, 3, 84), (12, 3, 85), (13, 3, 86), (14, 3, 87), (15, 3, 88), (16, 3, 89), (17, 3, 90), (18, 3, 91), (1, 4, 92), (12, 4, 93), (13, 4, 94), (14, 4, 95), (15, 4, 96), (16, 4, 97), (17, 4, 98), (18, 4, 99)]
theorem j_all {D : va_G} {cA : Nat → ClassId} {B : Nat} {ex : Nat → Nat} {H : Heap} (h9 : ∀ j e, (cs_9 (wJ D cA B ex) B)[j]? = some e → va_at D vwCl (B + j, e) H) : ∀ q ∈ jT, va_at (wD (wJ D cA B ex)) vwCl (wr (wJ D cA B ex) q.1 q.2.1, g_cell (wJ D cA B ex) sg0 q.1 q.2.1) H :=
  List.forall_mem_cons.mpr ⟨jc_0 h9, List.forall_mem_cons.mpr ⟨jc_1 h9, List.forall_mem_cons.mpr ⟨jc_2 h9, List.forall_mem_cons.mpr ⟨jc_3 h9, List.forall_mem_cons.mpr ⟨jc_4 h9, List.forall_mem_cons.mpr ⟨jc_5 h9, List.forall_mem_cons.mpr ⟨jc_6 h9, List.forall_mem_cons.mpr ⟨jc_7 h9, List.forall_mem_cons.mpr ⟨jc_8 h9, List.forall_mem_cons.mpr ⟨jc_9 h9, List.forall_mem_cons.mpr ⟨jc_10 h9, List.forall_mem_cons.mpr ⟨jc_11 h9, List.forall_mem_cons.mpr ⟨jc_12 h9, List.forall_mem_cons.mpr ⟨jc_13 h9, List.forall_mem_cons.mpr ⟨jc_14 h9, List.forall_mem_cons.mpr ⟨jc_15 h9, List.forall_mem_cons.mpr ⟨jc_16 h9, List.forall_mem_cons.mpr ⟨jc_17 h9, List.forall_mem_cons.mpr ⟨jc_18 h9, List.forall_mem_cons.mpr ⟨jc_19 h9, List.forall_mem_cons.mpr ⟨jc_20 h9, List.forall_mem_cons.mpr ⟨jc_21 h9, List.forall_mem_cons.mpr ⟨jc_22 h9, List.forall_mem_cons.mpr ⟨jc_23 h9, List.forall_mem_cons.mpr ⟨jc_24 h9, List.forall_mem_cons.mpr ⟨jc_25 h9, List.forall_mem_cons.mpr ⟨jc_26 h9, List.forall_mem_cons.mpr ⟨jc_27 h9, List.forall_mem_cons.mpr ⟨jc_28 h9, List.forall_mem_cons.mpr ⟨jc_29 h9, List.forall_mem_cons.mpr ⟨jc_30 h9, List.forall_mem_cons.mpr ⟨jc_31 h9, List.forall_mem_cons.mpr ⟨jc_32 h9, List.forall_mem_cons.mpr ⟨jc_33 h9, List.forall_mem_cons.mpr ⟨jc_34 h9, List.forall_mem_cons.mpr ⟨jc_35 h9, List.forall_mem_cons.mpr ⟨jc_36 h9, List.forall_mem_cons.mpr ⟨jc_37 h9, List.forall_mem_cons.mpr ⟨jc_38 h9, List.forall_mem_cons.mpr ⟨jc_39 h9, List.forall_mem_cons.mpr ⟨jc_40 h9, List.forall_mem_cons.mpr ⟨jc_41 h9, List.forall_mem_cons.mpr ⟨jc_42 h9, List.forall_mem_cons.mpr ⟨jc_43 h9, List.forall_mem_cons.mpr ⟨jc_44 h9, List.forall_mem_cons.mpr ⟨jc_45 h9, List.forall_mem_cons.mpr ⟨jc_46 h9, List.forall_mem_cons.mpr ⟨jc_47 h9, List.forall_mem_cons.mpr ⟨jc_48 h9, List.forall_mem_cons.mpr ⟨jc_49 h9, List.forall_mem_cons.mpr ⟨jc_50 h9, List.forall_mem_cons.mpr ⟨jc_51 h9, List.forall_mem_cons.mpr ⟨jc_52 h9, List.forall_mem_cons.mpr ⟨jc_53 h9, List.forall_mem_cons.mpr ⟨jc_54 h9, List.forall_mem_cons.mpr ⟨jc_55 h9, List.forall_mem_cons.mpr ⟨jc_56 h9, List.forall_mem_cons.mpr ⟨jc_57 h9, List.forall_mem_cons.mpr ⟨jc_58 h9, List.forall_mem_cons.mpr ⟨jc_59 h9, List.forall_mem_cons.mpr ⟨jc_60 h9, List.forall_mem_cons.mpr ⟨jc_61 h9, List.forall_mem_cons.mpr ⟨jc_62 h9, List.forall_mem_cons.mpr ⟨jc_63 h9, List.forall_mem_cons.mpr ⟨jc_64 h9, List.forall_mem_cons.mpr ⟨jc_65 h9, List.forall_mem_cons.mpr ⟨jc_66 h9, List.forall_mem_cons.mpr ⟨jc_67 h9, List.forall_mem_cons.mpr ⟨jc_68 h9, List.forall_mem_cons.mpr ⟨jc_69 h9, List.forall_mem_cons.mpr ⟨jc_70 h9, List.forall_mem_cons.mpr ⟨jc_71 h9, List.forall_mem_cons.mpr ⟨jc_72 h9, List.forall_mem_cons.mpr ⟨jc_73 h9, List.forall_mem_cons.mpr ⟨jc_74 h9, List.forall_mem_cons.mpr ⟨jc_75 h9, List.forall_mem_cons.mpr ⟨jc_76 h9, List.forall_mem_cons.mpr ⟨jc_77 h9, List.forall_mem_cons.mpr ⟨jc_78 h9, List.forall_mem_cons.mpr ⟨jc_79 h9, List.forall_mem_cons.mpr ⟨jc_80 h9, List.forall_mem_cons.mpr ⟨jc_81 h9, List.forall_mem_cons.mpr ⟨jc_82 h9, List.forall_mem_cons.mpr ⟨jc_83 h9, List.forall_mem_cons.mpr ⟨jc_84 h9, List.forall_mem_cons.mpr ⟨jc_85 h9, List.forall_mem_cons.mpr ⟨jc_86 h9, List.forall_mem_cons.mpr ⟨jc_87 h9, List.forall_mem_cons.mpr ⟨jc_88 h9, List.forall_mem_cons.mpr ⟨jc_89 h9, List.forall_mem_cons.mpr ⟨jc_90 h9, List.forall_mem_cons.mpr ⟨jc_91 h9, List.forall_mem_cons.mpr ⟨jc_92 h9, List.forall_mem_cons.mpr ⟨jc_93 h9, List.forall_mem_cons.mpr ⟨jc_94 h9, List.forall_mem_cons.mpr ⟨jc_95 h9, List.forall_mem_cons.mpr ⟨jc_96 h9, List.forall_mem_cons.mpr ⟨jc_97 h9, List.forall_mem_cons.mpr ⟨jc_98 h9, List.forall_mem_cons.mpr ⟨jc_99 h9, fun _ h => absurd h List.not_mem_nil⟩⟩⟩⟩⟩⟩⟩⟩⟩⟩⟩⟩⟩⟩⟩⟩⟩⟩⟩⟩⟩⟩⟩⟩⟩⟩⟩⟩⟩⟩⟩⟩⟩⟩⟩⟩⟩⟩⟩⟩⟩⟩⟩⟩⟩⟩⟩⟩⟩⟩⟩⟩⟩⟩⟩⟩⟩⟩⟩⟩⟩⟩⟩⟩⟩⟩⟩⟩⟩⟩⟩⟩⟩⟩⟩⟩⟩⟩⟩⟩⟩⟩⟩⟩⟩⟩⟩⟩⟩⟩⟩⟩⟩⟩⟩⟩⟩⟩⟩⟩
theorem jT_ok : ∀ k, k < 76 → mK k = false → ∀ i, i < g_cnt sg0 k → ∃ q ∈ jT, q.1 = k ∧ q.2.1 = i := by decide +kernel
theorem mK_ok : ∀ k, k < 76 → mK k = true → ∃ j, j < 33 ∧ k = mkj j ∧ g_cnt sg0 k = 1 := by decide +kernel
theorem j_Rep {D : va_G} {cA : Nat → ClassId} {B : Nat} {ex : Nat → Nat} {B0 H : Heap} (h : cnH D B0 B (cs_9 (wJ D cA B ex) B ++ (List.range 33).map (fun j => g_cell (wJ D cA B ex) sg0 (mkj j) 0)) H) : g_Rep (wJ D cA B ex) sg0 H := by
  have hl : (cs_9 (wJ D cA B ex) B).length = 100 := rfl
  have h9 : ∀ j e, (cs_9 (wJ D cA B ex) B)[j]? = some e → va_at D vwCl (B + j, e) H := fun j e he => by
    have hj := (List.getElem?_eq_some_iff.mp he).1
    exact h.2.2 j e (by rw [List.getElem?_append_left hj]; exact he)
  refine ⟨?_, fun k i hk hv => ?_, fun k i hk hk9 hv j hj => ?_⟩
  · rw [h.1, List.length_append, List.length_map, List.length_range, hl]
    rfl
  · have hi : i < g_cnt sg0 k := hv.2
    cases e : mK k with
    | false =>
      obtain ⟨q, hq, rfl, rfl⟩ := jT_ok k hk e i hi
      exact j_all h9 q hq
    | true =>
      obtain ⟨j, hj, rfl, hc⟩ := mK_ok k hk e
      rw [hc] at hi
      have hi0 : i = 0 := by omega
      subst hi0
      rw [wJ_m D cA B ex j hj]
      have := h.2.2 (100 + j) (g_cell (wJ D cA B ex) sg0 (mkj j) 0) (by
        rw [List.getElem?_append_right (by rw [hl]; omega), hl, show 100 + j - 100 = j by omega, List.getElem?_map, List.getElem?_range hj]
        rfl)
      rw [← Nat.add_assoc] at this
      exact this
  · have : k = 76 ∨ k = 77 ∨ k = 78 := by omega
    rcases this with rfl | rfl | rfl <;> rfl
