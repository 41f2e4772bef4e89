/-! what stays as it was, by the frames -/
def hitb : FPt → Nat → Nat → Nat → Bool
  | [], _, _, _ => false
  | e :: t, k, i, c => (Nat.beq e.1 k && ((Nat.beq e.2.1 0 || Nat.beq e.2.1 (i + 1)) && (Nat.beq e.2.2 0 || Nat.beq e.2.2 (c + 1)))) || hitb t k i c
theorem hitb_of {L : FPt} {k i c : Nat} (h : hit L k i c) : hitb L k i c = true := by
  induction L with
  | nil => exact h.elim
  | cons e t ih =>
    unfold hitb
    rcases h with ⟨h1, h2, h3⟩ | h
    · subst h1
      rw [Bool.or_eq_true]; left
      rw [Bool.and_eq_true, Bool.and_eq_true, Bool.or_eq_true, Bool.or_eq_true]
      exact ⟨Nat.beq_refl _, h2.imp (fun g => by rw [g]; rfl) (fun g => by rw [g]; exact Nat.beq_refl _), h3.imp (fun g => by rw [g]; rfl) (fun g => by rw [g]; exact Nat.beq_refl _)⟩
    · rw [ih h, Bool.or_true]
theorem nh {L : FPt} {k i c : Nat} (h : hitb L k i c = false) : ¬ hit L k i c := fun g => by
  rw [hitb_of g] at h; cases h
/-- no cell of these kinds at this index is written -/
def clr : FPt → List Nat → Nat → Bool
  | [], _, _ => true
  | e :: t, ks, g => (!(ks.elem e.1) || (!(Nat.beq e.2.1 0) && !(Nat.beq e.2.1 (g + 1)))) && clr t ks g
theorem clr_no {L : FPt} {ks : List Nat} {g : Nat} (h : clr L ks g = true) {k c : Nat} (hk : ks.elem k = true) : ¬ hit L k g c := by
  induction L with
  | nil => exact fun x => x
  | cons e t ih =>
    unfold clr at h
    rw [Bool.and_eq_true] at h
    rintro (⟨h1, h2, -⟩ | g')
    · subst h1
      rw [hk] at h
      rcases h2 with h2 | h2
      · rw [h2] at h; simp at h
      · rw [h2] at h; simp at h
    · exact ih h.2 g'
/-- texts: none but the first (the draft) is written -/
def clrT : FPt → Bool
  | [] => true
  | e :: t => (!([8, 31, 32, 33, 34, 35, 36].elem e.1) || Nat.beq e.2.1 1) && clrT t
theorem clrT_no {L : FPt} (h : clrT L = true) {k t c : Nat} (hk : [8, 31, 32, 33, 34, 35, 36].elem k = true) (ht : 1 ≤ t) : ¬ hit L k t c := by
  induction L with
  | nil => exact fun x => x
  | cons e r ih =>
    unfold clrT at h
    rw [Bool.and_eq_true] at h
    rintro (⟨h1, h2, -⟩ | g')
    · subst h1
      rw [hk] at h
      have h3 := Nat.eq_of_beq_eq_true (by simpa using h.1)
      omega
    · exact ih h.2 g'
theorem fn_eq {s s' : Sg} {k i : Nat} (h : ∀ c, rI s' k i c = rI s k i c) : s'.1 k i = s.1 k i := funext h
theorem MW_c {f f' : Nat → Int32} (hf : ∀ i, i < 58 → f' i = f i) (h : MW f) : MW f' := by
  obtain ⟨h1, h2, h3, h4, h5, h6⟩ := h
  unfold MW
  rw [hf 54 (by omega), hf 0 (by omega), hf 1 (by omega), hf 14 (by omega), hf 51 (by omega), hf 52 (by omega), hf 53 (by omega), hf 55 (by omega), hf 56 (by omega), hf 57 (by omega)]
  refine ⟨h1, fun w hw => ?_, h3, h4, ⟨h5.1, fun k hk => ?_⟩, h6⟩
  · rw [hf (2 + w) (by omega), hf (15 + w) (by omega), hf (27 + w) (by omega)]; exact h2 w hw
  · rw [hf (39 + 2 * k) (by omega), hf (40 + 2 * k) (by omega)]; exact h5.2 k hk
theorem GX_c {sx sx' : Sg} {g : Nat} {f f' : Nat → Int32} (hm : (f 54).toInt ≤ 12 ∧ (f 55).toInt ≤ 6) (h1 : ∀ c, 7 ≤ c → rI sx' 1 g c = rI sx 1 g c) (h2 : ∀ c, rI sx' 12 g c = rI sx 12 g c) (h3 : ∀ c, rI sx' 13 g c = rI sx 13 g c)
    (h4 : ∀ c, rI sx' 14 g c = rI sx 14 g c) (h5 : ∀ c, rI sx' 15 g c = rI sx 15 g c) (h6 : ∀ c, rI sx' 16 g c = rI sx 16 g c) (h7 : ∀ c, rI sx' 17 g c = rI sx 17 g c)
    (hf : ∀ i, i < 58 → f' i = f i) (h : GX sx g f) : GX sx' g f' := by
  unfold GX at h ⊢
  rw [hf 54 (by omega), hf 0 (by omega), hf 1 (by omega), hf 14 (by omega), hf 51 (by omega), hf 52 (by omega), hf 53 (by omega), hf 55 (by omega), hf 56 (by omega), hf 57 (by omega),
    h1 7 (by omega), h1 8 (by omega), h1 9 (by omega), h1 10 (by omega), h1 11 (by omega), h1 12 (by omega), h5, h5, h5, h5]
  refine ⟨h.1, fun w hw => ?_, h.2.2.1, ⟨h.2.2.2.1.1, fun k hk => ?_⟩, h.2.2.2.2⟩
  · rw [h2, h3, h4, hf (2 + w) (by omega), hf (15 + w) (by omega), hf (27 + w) (by omega)]; exact h.2.1 w hw
  · rw [h6, h7, hf (39 + 2 * k) (by omega), hf (40 + 2 * k) (by omega)]; exact h.2.2.2.1.2 k hk
theorem EncM_c {c v c' v' : Nat → Int32} {P : List Ins} : ∀ {k : Nat}, (∀ j, k ≤ j → j < k + P.length → c' j = c j ∧ v' j = v j) → EncM c v k P → EncM c' v' k P := by
  induction P with
  | nil => intro k _ _; trivial
  | cons i r ih =>
    intro k h g
    have h0 := h k (Nat.le_refl _) (by simp)
    refine ⟨by rw [h0.1]; exact g.1, fun e => by rw [h0.2]; exact g.2.1 e, fun e => by rw [h0.2]; exact g.2.2.1 e, ih (fun j h1 h2 => h j (by omega) (by simp only [List.length_cons]; omega)) g.2.2.2⟩
theorem claM_c {c v c' v' : Nat → Int32} {a : Cla} {k : Nat} (h : ∀ j, k ≤ j → j < k + claLen a → c' j = c j ∧ v' j = v j) (g : claM c v k a) : claM c' v' k a := by
  obtain ⟨a1, a2, a3⟩ := a
  have h0 := h k (Nat.le_refl _) (by unfold claLen; omega)
  cases a3 with
  | none =>
    exact ⟨by rw [h0.1]; exact g.1, by rw [h0.2]; exact g.2.1, EncM_c (fun j h1 h2 => h j (by omega) (by simp only [claLen] at *; omega)) g.2.2.1, trivial⟩
  | some T =>
    refine ⟨by rw [h0.1]; exact g.1, by rw [h0.2]; exact g.2.1, EncM_c (fun j h1 h2 => h j (by omega) (by simp only [claLen] at *; omega)) g.2.2.1, ?_, EncM_c (fun j h1 h2 => h j (by omega) (by simp only [claLen] at *; omega)) g.2.2.2.2⟩
    rw [(h (k + 1 + a2.length) (by omega) (by simp only [claLen]; omega)).1]; exact g.2.2.2.1
theorem clasM_c {c v c' v' : Nat → Int32} {C : List Cla} : ∀ {k : Nat}, (∀ j, k ≤ j → j < k + clasLen C → c' j = c j ∧ v' j = v j) → clasM c v k C → clasM c' v' k C := by
  induction C with
  | nil => intro k _ _; trivial
  | cons i r ih =>
    intro k h g
    exact ⟨claM_c (fun j h1 h2 => h j h1 (by simp only [clasLen]; omega)) g.1, ih (fun j h1 h2 => h j (by omega) (by simp only [clasLen]; omega)) g.2⟩
theorem claX_c {sx sx' : Sg} {t : Nat} (h1 : sx'.1 31 t = sx.1 31 t) (h2 : sx'.1 33 t = sx.1 33 t) (h3 : sx'.1 35 t = sx.1 35 t) (h4 : sx'.1 36 t = sx.1 36 t) (h5 : rN sx' 36 t 0 = rN sx 36 t 0)
    {j : Nat} {c : Cla} (g : claX sx t j c) : claX sx' t j c := by
  unfold claX rI at g ⊢
  rw [h1, h2, h3, h4, h5]; exact g
theorem clasX_c {sx sx' : Sg} {t : Nat} (h1 : sx'.1 31 t = sx.1 31 t) (h2 : sx'.1 33 t = sx.1 33 t) (h3 : sx'.1 35 t = sx.1 35 t) (h4 : sx'.1 36 t = sx.1 36 t) (h5 : rN sx' 36 t 0 = rN sx 36 t 0)
    {C : List Cla} : ∀ {j : Nat}, clasX sx t j C → clasX sx' t j C := by
  induction C with
  | nil => intro j _; trivial
  | cons i r ih => intro j g; exact ⟨claX_c h1 h2 h3 h4 h5 g.1, ih g.2⟩
theorem lawC_c {sx sx' : Sg} {t : Nat} {C : List Cla} (h8 : sx'.1 8 t = sx.1 8 t) (h1 : sx'.1 31 t = sx.1 31 t) (h2 : sx'.1 33 t = sx.1 33 t) (h3 : sx'.1 35 t = sx.1 35 t) (h4 : sx'.1 36 t = sx.1 36 t) (h5 : rN sx' 36 t 0 = rN sx 36 t 0)
    (h : lawC sx t C) : lawC sx' t C := by
  have e6 : rI sx' 8 t 6 = rI sx 8 t 6 := congrFun h8 6
  have e8 : rI sx' 8 t 8 = rI sx 8 t 8 := congrFun h8 8
  unfold lawC at h ⊢
  rw [e6, e8, h5]
  exact ⟨h.1, h.2.1, clasX_c h1 h2 h3 h4 h5 h.2.2.1, h.2.2.2⟩
theorem lawM_c {n n' : Int32} {c v c' v' : Nat → Int32} {C : List Cla} (hn : n' = n) (h : ∀ j, j < 400 → c' j = c j ∧ v' j = v j) (g : lawM n c v C) : lawM n' c' v' C := by
  subst hn
  exact ⟨g.1, g.2.1, clasM_c (fun j _ h2 => h j (by have := g.2.1; omega)) g.2.2⟩
theorem LawR_c {sx sx' : Sg} {t : Nat} {f f' : Nat → Int32} {l : Nat} (hl : l < 6) (h8 : sx'.1 8 t = sx.1 8 t) (h1 : sx'.1 31 t = sx.1 31 t) (h2 : sx'.1 33 t = sx.1 33 t) (h3 : sx'.1 35 t = sx.1 35 t) (h4 : sx'.1 36 t = sx.1 36 t) (h5 : rN sx' 36 t 0 = rN sx 36 t 0)
    (hf : ∀ i, 58 ≤ i → i < 64 ∨ 65 ≤ i ∧ i < 2465 ∨ 2865 ≤ i ∧ i < 5265 → f' i = f i) (h : LawR sx t f l) : LawR sx' t f' l := by
  obtain ⟨C, g1, g2, g3⟩ := h
  refine ⟨C, g1, lawC_c h8 h1 h2 h3 h4 h5 g2, lawM_c (hf _ (by omega) (by omega)) (fun j hj => ⟨hf _ (by omega) (by omega), hf _ (by omega) (by omega)⟩) g3⟩
theorem LX_c {sx sx' : Sg} {g : Nat} {f f' : Nat → Int32} (hm : (f 56).toInt ≤ 6) (h18 : ∀ c, rN sx' 18 g c = rN sx 18 g c) (h79 : rN sx 79 0 0 ≤ rN sx' 79 0 0)
    (ht : ∀ t k c, 1 ≤ t → t < rN sx 79 0 0 → [8, 31, 32, 33, 34, 35, 36].elem k = true → rI sx' k t c = rI sx k t c) (h36 : ∀ t, 1 ≤ t → t < rN sx 79 0 0 → rN sx' 36 t 0 = rN sx 36 t 0)
    (hf : ∀ i, i = 56 ∨ 58 ≤ i ∧ i < 64 ∨ 65 ≤ i ∧ i < 2465 ∨ 2865 ≤ i ∧ i < 5265 → f' i = f i) (h : LX sx g f) : LX sx' g f' := by
  intro l hl
  rw [hf 56 (by omega)] at hl
  obtain ⟨t, h1, h2, h3, h4⟩ := h l hl
  exact ⟨t, h1, by omega, by rw [h18]; exact h3, LawR_c (by omega) (fn_eq (fun c => ht t 8 c h1 h2 rfl)) (fn_eq (fun c => ht t 31 c h1 h2 rfl)) (fn_eq (fun c => ht t 33 c h1 h2 rfl)) (fn_eq (fun c => ht t 35 c h1 h2 rfl)) (fn_eq (fun c => ht t 36 c h1 h2 rfl)) (h36 t h1 h2)
    (fun i h5 h6 => hf i (by omega)) h4⟩
theorem GA_fr {L : FPt} {sx sx' : Sg} {g : Nat} {f f' : Nat → Int32} (F : Fr L sx sx') (c1 : clr L [1, 12, 13, 14, 15, 16, 17, 18] g = true) (c2 : clrT L = true) (c3 : hitb L 79 0 0 = false)
    (hf : ∀ i, i < 64 ∨ 65 ≤ i ∧ i < 2465 ∨ 2865 ≤ i ∧ i < 5265 → f' i = f i) (h : GA sx g f) : GA sx' g f' := by
  refine ⟨MW_c (fun i hi => hf i (by omega)) h.1, GX_c ⟨h.1.1.2, h.1.2.2.2.2.1.1.2⟩ (fun c _ => F.i _ _ _ (clr_no c1 rfl)) (fun c => F.i _ _ _ (clr_no c1 rfl)) (fun c => F.i _ _ _ (clr_no c1 rfl)) (fun c => F.i _ _ _ (clr_no c1 rfl))
    (fun c => F.i _ _ _ (clr_no c1 rfl)) (fun c => F.i _ _ _ (clr_no c1 rfl)) (fun c => F.i _ _ _ (clr_no c1 rfl)) (fun i hi => hf i (by omega)) h.2.1, ?_⟩
  exact LX_c h.1.2.2.2.2.2.1.2 (fun c => F.n _ _ _ (clr_no c1 rfl)) (Nat.le_of_eq (F.n _ _ _ (nh c3)).symm) (fun t k c h1 _ h2 => F.i _ _ _ (clrT_no c2 h2 h1)) (fun t h1 _ => F.n _ _ _ (clrT_no c2 rfl h1)) (fun i hi => hf i (by omega)) h.2.2
theorem Step_c {f f' : Nat → Int32} {v w ww : Int32} {a b a' b' : Nat → Int32} (hm : (f 54).toInt ≤ 12) (h54 : f' 54 = f 54) (hf : ∀ i, 15 ≤ i → i < 27 → f' i = f i) (ha : ∀ i, i < 15 → a' i = a i) (hb : ∀ i, i < 15 → b' i = b i)
    (h : Step f v w ww a b) : Step f' v w ww a' b' := by
  unfold Step at h ⊢
  rw [h54]
  rcases h with ⟨h1, h2, h3, h4, h5⟩ | ⟨h1, h2, h3, h4, h5, h6⟩ | ⟨h1, h2, h3, h4, h5, h6, h7, h8⟩ | ⟨h1, h2, h3, h4, h5⟩
  · exact .inl ⟨h1, h2, h3, by rw [ha 0 (by omega), hb 0 (by omega)]; exact h4, fun i g1 g2 => by rw [ha i g2, hb i g2]; exact h5 i g1 g2⟩
  · exact .inr (.inl ⟨h1, h2, h3, by rw [hf _ (by omega) (by omega)]; exact h4, by rw [ha 1 (by omega), hb 1 (by omega)]; exact h5, fun i g1 g2 => by rw [ha i g1, hb i g1]; exact h6 i g1 g2⟩)
  · exact .inr (.inr (.inl ⟨h1, h2, h3, by rw [ha _ (by omega)]; exact h4, by rw [hb _ (by omega)]; exact h5, by rw [hf _ (by omega) (by omega)]; exact h6, h7, fun i g1 g2 => by rw [ha i g1, hb i g1]; exact h8 i g1 g2⟩))
  · exact .inr (.inr (.inr ⟨h1, by rw [ha 14 (by omega), hb 14 (by omega)]; exact h2, by rw [ha 14 (by omega)]; exact h3, by rw [ha 14 (by omega)]; exact h4, fun i g1 => by rw [ha i (by omega), hb i (by omega)]; exact h5 i g1⟩))
theorem LogR_c {sx sx' sm sm' : Sg} (hm : (rI sm 43 0 54).toInt ≤ 12) (h1 : rI sx' 3 0 3 = rI sx 3 0 3) (h2 : ∀ c, rI sx' 20 0 c = rI sx 20 0 c) (h3 : ∀ c, rI sx' 21 0 c = rI sx 21 0 c) (h4 : ∀ c, rI sx' 22 0 c = rI sx 22 0 c)
    (h5 : rI sm' 10 0 46 = rI sm 10 0 46) (h6 : ∀ c, rI sm' 59 0 c = rI sm 59 0 c) (h7 : ∀ c, c < 27 ∨ c = 54 → rI sm' 43 0 c = rI sm 43 0 c) (h : LogR sx sm) : LogR sx' sm' := by
  obtain ⟨n, g1, g2, g3, g4⟩ := h
  refine ⟨n, g1, by rw [h1]; exact g2, by rw [h5]; exact g3, fun j hj => ?_⟩
  rw [h2, h3, h4, h6]
  have hs : ∀ j i, i < 15 → Sv sm' n j i = Sv sm n j i := by
    intro j i hi; unfold Sv; rw [h6, h7 i (by omega)]
  exact ⟨(g4 j hj).1, Step_c hm (h7 54 (by omega)) (fun i _ h => h7 i (by omega)) (hs j) (hs (j + 1)) (g4 j hj).2⟩
theorem LogR_0 {sx sm : Sg} (h1 : rI sx 3 0 3 = 0) (h2 : rI sm 10 0 46 = 0) : LogR sx sm :=
  ⟨0, by omega, by rw [h1]; rfl, by rw [h2]; rfl, fun j hj => absurd hj (Nat.not_lt_zero _)⟩
theorem InvC_fr {L M : FPt} {sx sx' sm sm' : Sg} (F : Fr L sx sx') (G : Fr M sm sm') (c0 : clr L [38] 0 = true) (c1 : clr L [1, 12, 13, 14, 15, 16, 17, 18] 3 = true) (c2 : clr L [1, 12, 13, 14, 15, 16, 17, 18] 4 = true) (c3 : clrT L = true) (c4 : hitb L 79 0 0 = false)
    (c5 : clr M [44, 45] 0 = true) (h : InvC sx sm) : InvC sx' sm' := by
  intro k hk
  have e1 : rI sx' 38 0 k = rI sx 38 0 k := F.i _ _ _ (clr_no c0 rfl)
  have e2 : rI sm' 45 0 k = rI sm 45 0 k := G.i _ _ _ (clr_no c5 rfl)
  rw [e1, e2]
  refine ⟨(h k hk).1, (h k hk).2.1, fun g => ?_⟩
  have h3 := (h k hk).2.2 g
  have hf : ∀ i, imf sm' k i = imf sm k i := fun i => G.i _ _ _ (clr_no c5 rfl)
  rcases (by omega : k = 0 ∨ k = 1) with rfl | rfl
  · exact GA_fr F c1 c3 c4 (fun i _ => hf i) h3
  · exact GA_fr F c2 c3 c4 (fun i _ => hf i) h3
theorem InvE_fr {L M : FPt} {sx sx' sm sm' : Sg} (F : Fr L sx sx') (G : Fr M sm sm') (c0 : clr L [1, 12] 2 = true) (c1 : clr M [73] 0 = true) (c2 : hitb M 10 0 66 = false) (h : InvE sx sm) : InvE sx' sm' := by
  unfold InvE at h ⊢
  have a1 : ∀ c, rI sx' 1 2 c = rI sx 1 2 c := fun c => F.i _ _ _ (clr_no c0 rfl)
  have a2 : ∀ c, rI sx' 12 2 c = rI sx 12 2 c := fun c => F.i _ _ _ (clr_no c0 rfl)
  have a3 : ∀ c, rI sm' 73 0 c = rI sm 73 0 c := fun c => G.i _ _ _ (clr_no c1 rfl)
  simp only [a1, a2, a3, G.i 10 0 66 (nh c2)]
  exact h
theorem InvF_fr {L M : FPt} {sx sx' sm sm' : Sg} (F : Fr L sx sx') (G : Fr M sm sm') (c0 : clr L [76, 77, 78] 0 = true) (c1 : clr L [36] 0 = true ∨ rN sx' 36 0 0 = 512) (c2 : (hitb L 7 0 1 = false ∧ hitb L 7 0 2 = false) ∨ ((rN sx' 7 0 1 = 0 ∧ rN sx' 7 0 2 = 1) ∨ (rN sx' 7 0 1 = 1 ∧ rN sx' 7 0 2 = 0)))
    (c3 : hitb L 79 0 0 = false ∨ rN sx 79 0 0 ≤ rN sx' 79 0 0) (c4 : clr M [47] 0 = true) (h : InvF sx sm) : InvF sx' sm' := by
  unfold InvF at h ⊢
  have a1 : ∀ c, rI sx' 76 0 c = rI sx 76 0 c := fun c => F.i _ _ _ (clr_no c0 rfl)
  have a2 : ∀ c, rI sx' 77 0 c = rI sx 77 0 c := fun c => F.i _ _ _ (clr_no c0 rfl)
  have a3 : ∀ c, rI sx' 78 0 c = rI sx 78 0 c := fun c => F.i _ _ _ (clr_no c0 rfl)
  have a4 : ∀ c, rI sm' 47 0 c = rI sm 47 0 c := fun c => G.i _ _ _ (clr_no c4 rfl)
  simp only [a1, a2, a3, a4]
  obtain ⟨h1, h2, h3, ⟨h4, h5, h6⟩, h7⟩ := h
  refine ⟨h1, h2, h3, ⟨?_, ?_, ?_⟩, h7⟩
  · rcases c1 with c1 | c1
    · rw [F.n _ _ _ (clr_no c1 rfl)]; exact h4
    · exact c1
  · rcases c2 with ⟨c2, c2'⟩ | c2
    · rw [F.n 7 0 1 (nh c2), F.n 7 0 2 (nh c2')]; exact h5
    · exact c2
  · rcases c3 with c3 | c3
    · rw [F.n 79 0 0 (nh c3)]; exact h6
    · omega
/-- what a call must leave as it was, for all but the single numbers -/
theorem InvB_fr {L M : FPt} {sx sx' sm sm' : Sg} (F : Fr L sx sx') (G : Fr M sm sm') (c1 : clr L [1, 12, 13, 14, 15, 16, 17, 18] 0 = true) (c2 : clrT L = true) (c3 : hitb L 79 0 0 = false) (c4 : clr M [43, 57] 0 = true) (c5 : hitb M 10 0 36 = false)
    (h : InvB sx sm) : InvB sx' sm' := by
  have a : ∀ c, rI sm' 43 0 c = rI sm 43 0 c := fun c => G.i _ _ _ (clr_no c4 rfl)
  refine ⟨GA_fr F c1 c2 c3 (fun i _ => a i) h.1, ?_, fun w hw => ?_⟩
  · rw [a, G.i _ _ _ (nh c5)]; exact h.2.1
  · rw [a] at hw; rw [G.i _ _ _ (clr_no c4 rfl)]; exact h.2.2 w hw
theorem LogR_fr {L M : FPt} {sx sx' sm sm' : Sg} (F : Fr L sx sx') (G : Fr M sm sm') (hm : (rI sm 43 0 54).toInt ≤ 12) (c1 : hitb L 3 0 3 = false) (c2 : clr L [20, 21, 22] 0 = true) (c3 : hitb M 10 0 46 = false) (c4 : clr M [43, 59] 0 = true)
    (h : LogR sx sm) : LogR sx' sm' :=
  LogR_c hm (F.i _ _ _ (nh c1)) (fun c => F.i _ _ _ (clr_no c2 rfl)) (fun c => F.i _ _ _ (clr_no c2 rfl)) (fun c => F.i _ _ _ (clr_no c2 rfl)) (G.i _ _ _ (nh c3)) (fun c => G.i _ _ _ (clr_no c4 rfl)) (fun c _ => G.i _ _ _ (clr_no c4 rfl)) h
theorem InvA_fr {L M : FPt} {sx sx' sm sm' : Sg} (F : Fr L sx sx') (G : Fr M sm sm') (c1 : clr L [9, 39, 41] 0 = true) (c2 : hitb L 6 0 6 = false) (c3 : clr M [42, 48] 0 = true) (c4 : hitb M 10 0 13 = false) (c5 : hitb M 10 0 6 = false) (c6 : hitb M 10 0 58 = false) (c7 : hitb M 10 0 0 = false) (c8 : hitb M 10 0 14 = false)
    (h : InvA sx sm) : InvA sx' sm' := by
  unfold InvA at h ⊢
  have a1 : ∀ c, rI sx' 9 0 c = rI sx 9 0 c := fun c => F.i _ _ _ (clr_no c1 rfl)
  have a2 : ∀ c, rI sx' 39 0 c = rI sx 39 0 c := fun c => F.i _ _ _ (clr_no c1 rfl)
  have a3 : ∀ c, rI sx' 41 0 c = rI sx 41 0 c := fun c => F.i _ _ _ (clr_no c1 rfl)
  have a4 : ∀ c, rI sm' 42 0 c = rI sm 42 0 c := fun c => G.i _ _ _ (clr_no c3 rfl)
  have a5 : ∀ c, rI sm' 48 0 c = rI sm 48 0 c := fun c => G.i _ _ _ (clr_no c3 rfl)
  simp only [a1, a2, a3, a4, a5, F.i 6 0 6 (nh c2), G.i 10 0 13 (nh c4), G.i 10 0 6 (nh c5), G.i 10 0 58 (nh c6), G.i 10 0 0 (nh c7), G.i 10 0 14 (nh c8)]
  exact h
