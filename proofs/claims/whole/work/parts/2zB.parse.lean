/-! THE TEXTS: a reading of tokens that both sides keep to -/
abbrev PR : Type := (List Ins × Nat × Nat) ⊕ Nat
def pb {α : Type} (r : PR) (f : List Ins → Nat → Nat → α ⊕ Nat) : α ⊕ Nat := match r with | .inl x => f x.1 x.2.1 x.2.2 | .inr e => .inr e
theorem pb_l {α : Type} {P : List Ins} {p q : Nat} {f : List Ins → Nat → Nat → α ⊕ Nat} : pb (.inl (P, p, q)) f = f P p q := rfl
theorem pb_r {α : Type} {e : Nat} {f : List Ins → Nat → Nat → α ⊕ Nat} : pb (.inr e) f = .inr e := rfl
def opS (x : Nat) : Nat := if x = 2043 then 7 else if x = 2045 then 8 else 0
def opT (x : Nat) : Nat := if x = 2042 then 9 else if x = 2047 then 10 else if x = 2037 then 11 else 0
def opC (x : Nat) : Nat := if x = 2060 then 12 else if x = 2062 then 13 else if x = 2061 then 14 else 0
def leaf (σ : Nat → Nat) (o : Bool) (p q : Nat) : PR :=
  if 50 ≤ q then .inr p
  else if σ p ≤ 1000 then .inl ([(1, σ p)], p + 1, q + 1)
  else if o = false then (if 3013 ≤ σ p ∧ σ p ≤ 3020 then .inl ([(2, σ p - 3013)], p + 1, q + 1) else .inr p)
  else if σ p = 3025 ∨ σ p = 3026 then (if σ (p + 1) ≤ 11 then .inl ([(2, (if σ p = 3025 then 5 else 17) + σ (p + 1))], p + 2, q + 1) else .inr (p + 1))
  else if 3020 ≤ σ p ∧ σ p ≤ 3024 then .inl ([(2, σ p - 3020)], p + 1, q + 1) else .inr p
def lp (σ : Nat → Nat) (op : Nat → Nat) (sub : Nat → Nat → PR) : Nat → List Ins → Nat → Nat → PR
  | 0 => fun P p q => .inl (P, p, q)
  | n + 1 => fun P p q => if op (σ p) = 0 then .inl (P, p, q) else pb (sub (p + 1) q) (fun Q p' q' => lp σ op sub n (P ++ Q ++ [(op (σ p), 0)]) p' q')
theorem lp_s {σ : Nat → Nat} {op : Nat → Nat} {sub : Nat → Nat → PR} {n : Nat} {P : List Ins} {p q : Nat} : lp σ op sub (n + 1) P p q = if op (σ p) = 0 then .inl (P, p, q) else pb (sub (p + 1) q) (fun Q p' q' => lp σ op sub n (P ++ Q ++ [(op (σ p), 0)]) p' q') := rfl
def pTerm (σ : Nat → Nat) (part : Nat → Nat → PR) (p q : Nat) : PR := pb (part p q) (fun P p' q' => lp σ opT part 402 P p' q')
def pSumW (σ : Nat → Nat) (part : Nat → Nat → PR) (p q : Nat) : PR := pb (pTerm σ part p q) (fun P p' q' => lp σ opS (pTerm σ part) 402 P p' q')
def pPart (σ : Nat → Nat) (o : Bool) : Nat → Nat → Nat → PR
  | 0 => fun p q => if σ p = 2091 then .inr p else leaf σ o p q
  | d + 1 => fun p q => if σ p = 2091 then pb (pSumW σ (pPart σ o d) (p + 1) q) (fun P p' q' => if σ p' = 2093 then .inl (P, p' + 1, q') else .inr p') else leaf σ o p q
def pSum (σ : Nat → Nat) (o : Bool) (d p q : Nat) : PR := pSumW σ (pPart σ o d) p q
def pCmp (σ : Nat → Nat) (o : Bool) (d p q : Nat) : PR := pb (pSum σ o d p q) (fun P p' q' => if opC (σ p') = 0 then .inr p' else pb (pSum σ o d (p' + 1) q') (fun Q p2 q2 => .inl (P ++ Q ++ [(opC (σ p'), 0)], p2, q2)))
def nots (σ : Nat → Nat) : Nat → Nat → Bool → Nat × Bool
  | 0 => fun p b => (p, b)
  | n + 1 => fun p b => if σ p = 3012 then nots σ n (p + 1) (!b) else (p, b)
theorem nots_s {σ : Nat → Nat} {n p : Nat} {b : Bool} : nots σ (n + 1) p b = if σ p = 3012 then nots σ n (p + 1) (!b) else (p, b) := rfl
def tn (b : Bool) : List Ins := if b = true then [(3, 0)] else []
def pPos (σ : Nat → Nat) (o : Bool) (brk : Nat → Nat → PR) (d p q : Nat) (b : Bool) : PR := pb (if σ p = 2040 then brk p q else pCmp σ o d p q) (fun P p' q' => .inl (P ++ tn b, p', q'))
def pPlainW (σ : Nat → Nat) (o : Bool) (brk : Nat → Nat → PR) (d p q : Nat) : PR := pPos σ o brk d (nots σ 402 p false).1 q (nots σ 402 p false).2
def lj (σ : Nat → Nat) (w k : Nat) (sub : Nat → Nat → PR) : Nat → List Ins → Nat → Nat → PR
  | 0 => fun P p q => .inl (P, p, q)
  | n + 1 => fun P p q => if σ p = w then pb (sub (p + 1) q) (fun Q p' q' => lj σ w k sub n (P ++ (k, Q.length) :: Q) p' q') else .inl (P, p, q)
theorem lj_s {σ : Nat → Nat} {w k : Nat} {sub : Nat → Nat → PR} {n : Nat} {P : List Ins} {p q : Nat} : lj σ w k sub (n + 1) P p q = if σ p = w then pb (sub (p + 1) q) (fun Q p' q' => lj σ w k sub n (P ++ (k, Q.length) :: Q) p' q') else .inl (P, p, q) := rfl
def pBothW (σ : Nat → Nat) (plain : Nat → Nat → PR) (p q : Nat) : PR := pb (plain p q) (fun P p' q' => lj σ 3011 4 plain 402 P p' q')
def pTestW (σ : Nat → Nat) (plain : Nat → Nat → PR) (p q : Nat) : PR := pb (pBothW σ plain p q) (fun P p' q' => lj σ 3010 5 (pBothW σ plain) 402 P p' q')
def pBrk (σ : Nat → Nat) (test : Nat → Nat → PR) (p q : Nat) : PR := pb (test (p + 1) q) (fun P p' q' => if σ p' = 2041 then .inl (P, p' + 1, q') else .inr p')
def pPlain (σ : Nat → Nat) (o : Bool) : Nat → Nat → Nat → PR
  | 0 => pPlainW σ o (fun p _ => .inr p) 0
  | d + 1 => pPlainW σ o (pBrk σ (pTestW σ (pPlain σ o d))) (d + 1)
def pTest (σ : Nat → Nat) (o : Bool) (d p q : Nat) : PR := pTestW σ (pPlain σ o d) p q
/-! what is read is as it must be -/
theorem evA_k {F : Nat → Int32} {i : Ins} {r : List Ins} {k : List Int64} : evA F (i :: r) 0 k =
    (if i.1 = 1 then evA F r 0 (Int64.ofNat i.2 :: k)
    else if i.1 = 2 then evA F r 0 ((F i.2).toInt64 :: k)
    else match k with
      | [] => none
      | a :: t =>
        if i.1 = 3 then evA F r 0 ((1 - a) :: t)
        else if i.1 = 4 then (if a = 0 then evA F r i.2 k else if a = 1 then evA F r 0 t else none)
        else if i.1 = 5 then (if a = 1 then evA F r i.2 k else if a = 0 then evA F r 0 t else none)
        else match t with
          | [] => none
          | b :: u => match opn i.1 b a with
            | none => some none
            | some v => evA F r 0 (v :: u)) := by cases k <;> rfl
def thn (r : Option (Option (Nat × List Int64))) (f : Nat → List Int64 → Option (Option (Nat × List Int64))) : Option (Option (Nat × List Int64)) :=
  match r with
  | none => none
  | some none => some none
  | some (some x) => f x.1 x.2
theorem evA_app {F : Nat → Int32} {P Q : List Ins} : ∀ {n : Nat} {k : List Int64}, evA F (P ++ Q) n k = thn (evA F P n k) (evA F Q) := by
  induction P with
  | nil => intro n k; rfl
  | cons i r ih =>
    intro n k
    cases n with
    | succ n => exact ih
    | zero =>
      rw [List.cons_append, evA_k, evA_k]
      by_cases c1 : i.1 = 1
      · rw [if_pos c1, if_pos c1]; exact ih
      rw [if_neg c1, if_neg c1]
      by_cases c2 : i.1 = 2
      · rw [if_pos c2, if_pos c2]; exact ih
      rw [if_neg c2, if_neg c2]
      cases k with
      | nil => rfl
      | cons a t =>
        simp only []
        by_cases c3 : i.1 = 3
        · rw [if_pos c3, if_pos c3]; exact ih
        rw [if_neg c3, if_neg c3]
        by_cases c4 : i.1 = 4
        · rw [if_pos c4, if_pos c4]
          by_cases a0 : a = 0
          · rw [if_pos a0, if_pos a0]; exact ih
          rw [if_neg a0, if_neg a0]
          by_cases a1 : a = 1
          · rw [if_pos a1, if_pos a1]; exact ih
          rw [if_neg a1, if_neg a1]; rfl
        rw [if_neg c4, if_neg c4]
        by_cases c5 : i.1 = 5
        · rw [if_pos c5, if_pos c5]
          by_cases a0 : a = 1
          · rw [if_pos a0, if_pos a0]; exact ih
          rw [if_neg a0, if_neg a0]
          by_cases a1 : a = 0
          · rw [if_pos a1, if_pos a1]; exact ih
          rw [if_neg a1, if_neg a1]; rfl
        rw [if_neg c5, if_neg c5]
        cases t with
        | nil => rfl
        | cons b u =>
          simp only []
          cases opn i.1 b a with
          | none => rfl
          | some v => exact ih
theorem evA_all {F : Nat → Int32} : ∀ {P : List Ins} {k : List Int64}, evA F P P.length k = some (some (0, k)) := by
  intro P
  induction P with
  | nil => intro k; rfl
  | cons i r ih => intro k; exact ih
theorem skOK_app {P Q : List Ins} (hp : skOK P) (hq : skOK Q) : skOK (P ++ Q) := by
  induction P with
  | nil => exact hq
  | cons i r ih => exact ⟨fun h => by have := hp.1 h; show i.2 ≤ (r ++ Q).length; rw [List.length_append]; omega, ih hp.2⟩
theorem pushes_app {P Q : List Ins} : pushes (P ++ Q) = pushes P + pushes Q := by
  induction P with
  | nil => simp [pushes]
  | cons i r ih => simp only [List.cons_append, pushes, ih]; omega
theorem ok_app {nf : Nat} {P Q : List Ins} (hp : ∀ i ∈ P, okIns nf i) (hq : ∀ i ∈ Q, okIns nf i) : ∀ i ∈ P ++ Q, okIns nf i := fun i h => (List.mem_append.mp h).elim (hp i) (hq i)
/-- a TEST in any place -/
def wfB (nf : Nat) (P : List Ins) : Prop := (∀ i ∈ P, okIns nf i) ∧ skOK P ∧ ∀ F k, evA F P 0 k = some none ∨ ∃ v, (v = 0 ∨ v = 1) ∧ evA F P 0 k = some (some (0, v :: k))
theorem wfT_B {nf : Nat} {P : List Ins} (h : wfB nf P) : wfT nf P := ⟨h.1, h.2.1, fun F => h.2.2 F []⟩
theorem ok_one {nf o : Nat} (h : 7 ≤ o ∧ o ≤ 14) : ∀ i ∈ [((o, 0) : Ins)], okIns nf i := by
  intro i hi
  have : i = (o, 0) := by simpa using hi
  subst this
  exact .inr (.inr (.inr (.inr (.inr h))))
theorem ev_op {F : Nat → Int32} {o : Nat} (h : 7 ≤ o) {a b : Int64} {k : List Int64} : evA F [(o, 0)] 0 (a :: b :: k) = match opn o b a with | none => some none | some v => some (some (0, v :: k)) := by
  rw [evA_k]
  rw [if_neg (show ¬ o = 1 by omega), if_neg (show ¬ o = 2 by omega)]
  simp only []
  rw [if_neg (by omega), if_neg (by omega), if_neg (by omega)]
  cases opn o b a <;> rfl
theorem ev_two {nf : Nat} {P Q : List Ins} {o : Nat} (hp : wfS nf P) (hq : wfS nf Q) (ho : 7 ≤ o) (F : Nat → Int32) (k : List Int64) : evA F (P ++ Q ++ [(o, 0)]) 0 k = some none ∨ ∃ a b, evA F P 0 k = some (some (0, a :: k)) ∧ evA F Q 0 (a :: k) = some (some (0, b :: a :: k)) ∧ evA F (P ++ Q ++ [(o, 0)]) 0 k = match opn o a b with | none => some none | some v => some (some (0, v :: k)) := by
  rw [evA_app, evA_app]
  rcases hp.2.2 F k with h | ⟨a, h⟩
  · rw [h]; exact .inl rfl
  · rw [h]
    simp only [thn]
    rcases hq.2.2 F (a :: k) with g | ⟨b, g⟩
    · rw [g]; exact .inl rfl
    · rw [g]
      simp only []
      rw [ev_op ho]
      exact .inr ⟨a, b, rfl, g, rfl⟩
theorem wfS_op {nf : Nat} {P Q : List Ins} {o : Nat} (hp : wfS nf P) (hq : wfS nf Q) (ho : 7 ≤ o ∧ o ≤ 14) : wfS nf (P ++ Q ++ [(o, 0)]) := by
  refine ⟨ok_app (ok_app hp.1 hq.1) (ok_one ho), skOK_app (skOK_app hp.2.1 hq.2.1) ⟨fun h => by simp only at h; omega, trivial⟩, fun F k => ?_⟩
  rcases ev_two hp hq ho.1 F k with h | ⟨a, b, _, _, h⟩
  · exact .inl h
  · rw [h]
    cases opn o a b with
    | none => exact .inl rfl
    | some v => exact .inr ⟨v, rfl⟩
theorem opn_c {o : Nat} (ho : 12 ≤ o ∧ o ≤ 14) (a b : Int64) : ∃ v, (v = 0 ∨ v = 1) ∧ opn o a b = some v := by
  have v01 : opr o a b = 0 ∨ opr o a b = 1 := by
    unfold opr
    rw [if_neg (by omega), if_neg (by omega), if_neg (by omega), if_neg (by omega), if_neg (by omega)]
    by_cases c : o = 12
    · rw [if_pos c]; by_cases d : a < b
      · rw [if_pos d]; exact .inr rfl
      · rw [if_neg d]; exact .inl rfl
    · rw [if_neg c]
      by_cases c' : o = 13
      · rw [if_pos c']; by_cases d : b < a
        · rw [if_pos d]; exact .inr rfl
        · rw [if_neg d]; exact .inl rfl
      · rw [if_neg c']; by_cases d : a = b
        · rw [if_pos d]; exact .inr rfl
        · rw [if_neg d]; exact .inl rfl
  refine ⟨opr o a b, v01, ?_⟩
  unfold opn
  rw [if_neg (by omega), if_neg (opr_cmp_le (by omega))]
theorem wfB_op {nf : Nat} {P Q : List Ins} {o : Nat} (hp : wfS nf P) (hq : wfS nf Q) (ho : 12 ≤ o ∧ o ≤ 14) : wfB nf (P ++ Q ++ [(o, 0)]) := by
  have w := wfS_op hp hq (o := o) (by omega)
  refine ⟨w.1, w.2.1, fun F k => ?_⟩
  rcases ev_two hp hq (by omega : 7 ≤ o) F k with h | ⟨a, b, _, _, h⟩
  · exact .inl h
  · obtain ⟨v, v1, v2⟩ := opn_c ho a b
    rw [h, v2]
    exact .inr ⟨v, v1, rfl⟩
theorem wfB_tn {nf : Nat} {P : List Ins} (h : wfB nf P) (b : Bool) : wfB nf (P ++ tn b) := by
  cases b with
  | false => show wfB nf (P ++ []); rw [List.append_nil]; exact h
  | true =>
    show wfB nf (P ++ [(3, 0)])
    refine ⟨ok_app h.1 (fun i hi => ?_), skOK_app h.2.1 ⟨fun x => by simp only at x; omega, trivial⟩, fun F k => ?_⟩
    · have : i = (3, 0) := by simpa using hi
      subst this; exact .inr (.inr (.inl rfl))
    · rw [evA_app]
      rcases h.2.2 F k with e | ⟨v, v1, e⟩
      · rw [e]; exact .inl rfl
      · rw [e]
        refine .inr ⟨1 - v, ?_, rfl⟩
        rcases v1 with rfl | rfl
        · exact .inr (by decide)
        · exact .inl (by decide)
theorem wfB_j {nf : Nat} {P Q : List Ins} {k : Nat} (hk : k = 4 ∨ k = 5) (hp : wfB nf P) (hq : wfB nf Q) : wfB nf (P ++ (k, Q.length) :: Q) := by
  refine ⟨ok_app hp.1 (fun i hi => ?_), skOK_app hp.2.1 ⟨fun _ => Nat.le_refl _, hq.2.1⟩, fun F st => ?_⟩
  · rcases List.mem_cons.mp hi with e | e
    · subst e; rcases hk with rfl | rfl
      · exact .inr (.inr (.inr (.inl rfl)))
      · exact .inr (.inr (.inr (.inr (.inl rfl))))
    · exact hq.1 i e
  · rw [evA_app]
    rcases hp.2.2 F st with e | ⟨v, v1, e⟩
    · rw [e]; exact .inl rfl
    · rw [e]
      show evA F ((k, Q.length) :: Q) 0 (v :: st) = _ ∨ ∃ v', _ ∧ evA F ((k, Q.length) :: Q) 0 (v :: st) = _
      rw [evA_k]
      rcases hk with rfl | rfl
      · rw [if_neg (show ¬ (4 : Nat) = 1 by decide), if_neg (show ¬ (4 : Nat) = 2 by decide)]
        simp only []
        rw [if_neg (by decide), if_pos trivial]
        by_cases c : v = 0
        · rw [if_pos c, evA_all]; exact .inr ⟨v, v1, rfl⟩
        · rw [if_neg c, if_pos (v1.resolve_left c)]; exact hq.2.2 F st
      · rw [if_neg (show ¬ (5 : Nat) = 1 by decide), if_neg (show ¬ (5 : Nat) = 2 by decide)]
        simp only []
        rw [if_neg (by decide), if_neg (by decide), if_pos trivial]
        by_cases c : v = 1
        · rw [if_pos c, evA_all]; exact .inr ⟨v, v1, rfl⟩
        · rw [if_neg c, if_pos (v1.resolve_right c)]; exact hq.2.2 F st
def nfo (o : Bool) : Nat := if o = true then 29 else 8
/-- a reading keeps to the tokens -/
def GR (W : List Ins → Prop) (T p q : Nat) (r : PR) : Prop := match r with | .inr e => e ≤ T | .inl x => W x.1 ∧ x.1.length + p ≤ x.2.1 ∧ x.2.1 ≤ T ∧ pushes x.1 + q = x.2.2 ∧ x.2.2 ≤ 50 ∧ 1 ≤ x.1.length
theorem GR_l {W : List Ins → Prop} {T p q : Nat} {P : List Ins} {p' q' : Nat} : GR W T p q (.inl (P, p', q')) ↔ W P ∧ P.length + p ≤ p' ∧ p' ≤ T ∧ pushes P + q = q' ∧ q' ≤ 50 ∧ 1 ≤ P.length := Iff.rfl
theorem pT {σ : Nat → Nat} {T p : Nat} (hT : σ T = 4000) (h : p ≤ T) (g : σ p ≠ 4000) : p + 1 ≤ T := by
  rcases Nat.lt_or_ge p T with c | c
  · exact c
  · have : p = T := by omega
    subst this; exact absurd hT g
theorem leaf_g {σ : Nat → Nat} {o : Bool} {T p q : Nat} (hT : σ T = 4000) (hp : p ≤ T) : GR (wfS (nfo o)) T p q (leaf σ o p q) := by
  have one : ∀ i : Ins, okIns (nfo o) i → (i.1 = 1 ∨ i.1 = 2) → wfS (nfo o) [i] := by
    intro i hi h12
    refine ⟨fun j hj => by have : j = i := by simpa using hj
                           subst this; exact hi, ⟨fun x => by omega, trivial⟩, fun F k => .inr ?_⟩
    rw [evA_k]
    by_cases c : i.1 = 1
    · rw [if_pos c]; exact ⟨_, rfl⟩
    · rw [if_neg c, if_pos (h12.resolve_left c)]; exact ⟨_, rfl⟩
  unfold leaf
  by_cases c0 : 50 ≤ q
  · rw [if_pos c0]; exact hp
  rw [if_neg c0]
  by_cases c1 : σ p ≤ 1000
  · rw [if_pos c1]
    have := pT hT hp (by omega)
    exact ⟨one _ (.inl ⟨rfl, c1⟩) (.inl rfl), by show 1 + p ≤ p + 1; omega, this, by show 1 + 0 + q = q + 1; omega, by show q + 1 ≤ 50; omega, by show 1 ≤ 1; omega⟩
  rw [if_neg c1]
  cases o with
  | false =>
    rw [if_pos rfl]
    by_cases c2 : 3013 ≤ σ p ∧ σ p ≤ 3020
    · rw [if_pos c2]
      have := pT hT hp (by omega)
      exact ⟨one _ (.inr (.inl ⟨rfl, by show σ p - 3013 < 8; omega⟩)) (.inr rfl), by show 1 + p ≤ p + 1; omega, this, by show 1 + 0 + q = q + 1; omega, by show q + 1 ≤ 50; omega, by show 1 ≤ 1; omega⟩
    · rw [if_neg c2]; exact hp
  | true =>
    rw [if_neg (by decide)]
    by_cases c2 : σ p = 3025 ∨ σ p = 3026
    · rw [if_pos c2]
      have h1 := pT hT hp (by omega)
      by_cases c3 : σ (p + 1) ≤ 11
      · rw [if_pos c3]
        have h2 := pT hT h1 (by omega)
        refine ⟨one _ (.inr (.inl ⟨rfl, ?_⟩)) (.inr rfl), by show 1 + p ≤ p + 2; omega, h2, by show 1 + 0 + q = q + 1; omega, by show q + 1 ≤ 50; omega, by show 1 ≤ 1; omega⟩
        show (if σ p = 3025 then 5 else 17) + σ (p + 1) < 29
        by_cases c4 : σ p = 3025
        · rw [if_pos c4]; omega
        · rw [if_neg c4]; omega
      · rw [if_neg c3]; exact h1
    · rw [if_neg c2]
      by_cases c3 : 3020 ≤ σ p ∧ σ p ≤ 3024
      · rw [if_pos c3]
        have := pT hT hp (by omega)
        exact ⟨one _ (.inr (.inl ⟨rfl, by show σ p - 3020 < 29; omega⟩)) (.inr rfl), by show 1 + p ≤ p + 1; omega, this, by show 1 + 0 + q = q + 1; omega, by show q + 1 ≤ 50; omega, by show 1 ≤ 1; omega⟩
      · rw [if_neg c3]; exact hp
def opOK (op : Nat → Nat) : Prop := ∀ x, op x = 0 ∨ (7 ≤ op x ∧ op x ≤ 11 ∧ x ≠ 4000)
theorem opS_ok : opOK opS := by
  intro x; unfold opS
  by_cases c : x = 2043
  · rw [if_pos c]; omega
  · rw [if_neg c]; by_cases d : x = 2045
    · rw [if_pos d]; omega
    · rw [if_neg d]; omega
theorem opT_ok : opOK opT := by
  intro x; unfold opT
  by_cases c : x = 2042
  · rw [if_pos c]; omega
  · rw [if_neg c]; by_cases d : x = 2047
    · rw [if_pos d]; omega
    · rw [if_neg d]; by_cases e : x = 2037
      · rw [if_pos e]; omega
      · rw [if_neg e]; omega
theorem opC_ok (x : Nat) : opC x = 0 ∨ (12 ≤ opC x ∧ opC x ≤ 14 ∧ x ≠ 4000) := by
  unfold opC
  by_cases c : x = 2060
  · rw [if_pos c]; omega
  · rw [if_neg c]; by_cases d : x = 2062
    · rw [if_pos d]; omega
    · rw [if_neg d]; by_cases e : x = 2061
      · rw [if_pos e]; omega
      · rw [if_neg e]; omega
theorem lp_g {σ : Nat → Nat} {nf T : Nat} (hT : σ T = 4000) {op : Nat → Nat} (ho : opOK op) {sub : Nat → Nat → PR} (hs : ∀ p q, p ≤ T → q ≤ 50 → GR (wfS nf) T p q (sub p q)) {p0 q0 : Nat} : ∀ (n : Nat) {P : List Ins} {p q : Nat}, GR (wfS nf) T p0 q0 (.inl (P, p, q)) → GR (wfS nf) T p0 q0 (lp σ op sub n P p q) := by
  intro n
  induction n with
  | zero => intro P p q h; exact h
  | succ n ih =>
    intro P p q h
    rw [lp_s]
    by_cases c : op (σ p) = 0
    · rw [if_pos c]; exact h
    · rw [if_neg c]
      obtain ⟨h1, h2, h3, h4, h5, h6⟩ := GR_l.mp h
      have oo := (ho (σ p)).resolve_left c
      have hp1 := pT hT h3 oo.2.2
      have g := hs (p + 1) q hp1 h5
      cases hr : sub (p + 1) q with
      | inr e => rw [hr] at g; exact g
      | inl x =>
        obtain ⟨Q, p', q'⟩ := x
        rw [hr] at g
        obtain ⟨g1, g2, g3, g4, g5, g6⟩ := GR_l.mp g
        rw [pb_l]
        refine ih (GR_l.mpr ⟨wfS_op h1 g1 (by omega), ?_, g3, ?_, g5, ?_⟩)
        · simp only [List.length_append, List.length_cons, List.length_nil]; omega
        · rw [pushes_app, pushes_app]; have : pushes [((op (σ p), 0) : Ins)] = 0 := by
            show (if op (σ p) = 1 ∨ op (σ p) = 2 then 1 else 0) + 0 = 0
            rw [if_neg (by omega)]
          omega
        · simp only [List.length_append]; omega
theorem pTerm_g {σ : Nat → Nat} {nf T : Nat} (hT : σ T = 4000) {part : Nat → Nat → PR} (hs : ∀ p q, p ≤ T → q ≤ 50 → GR (wfS nf) T p q (part p q)) {p q : Nat} (hp : p ≤ T) (hq : q ≤ 50) : GR (wfS nf) T p q (pTerm σ part p q) := by
  unfold pTerm
  have g := hs p q hp hq
  cases hr : part p q with
  | inr e => rw [hr] at g; exact g
  | inl x => rw [hr] at g; exact lp_g hT opT_ok hs _ g
theorem pSumW_g {σ : Nat → Nat} {nf T : Nat} (hT : σ T = 4000) {part : Nat → Nat → PR} (hs : ∀ p q, p ≤ T → q ≤ 50 → GR (wfS nf) T p q (part p q)) {p q : Nat} (hp : p ≤ T) (hq : q ≤ 50) : GR (wfS nf) T p q (pSumW σ part p q) := by
  unfold pSumW
  have g := pTerm_g hT hs hp hq
  cases hr : pTerm σ part p q with
  | inr e => rw [hr] at g; exact g
  | inl x => rw [hr] at g; exact lp_g hT opS_ok (fun p q h1 h2 => pTerm_g hT hs h1 h2) _ g
theorem GR_sh {W : List Ins → Prop} {T p q : Nat} {P : List Ins} {p' q' : Nat} (h : GR W T (p + 1) q (.inl (P, p', q'))) {x : Nat} (hx : p' ≤ x) (hT : x ≤ T) : GR W T p q (.inl (P, x, q')) := by
  obtain ⟨h1, h2, h3, h4, h5, h6⟩ := GR_l.mp h
  exact GR_l.mpr ⟨h1, by omega, hT, h4, h5, h6⟩
theorem pPart_g {σ : Nat → Nat} {o : Bool} {T : Nat} (hT : σ T = 4000) : ∀ (d : Nat) (p q : Nat), p ≤ T → q ≤ 50 → GR (wfS (nfo o)) T p q (pPart σ o d p q) := by
  intro d
  induction d with
  | zero =>
    intro p q hp hq
    show GR _ T p q (if σ p = 2091 then .inr p else leaf σ o p q)
    by_cases c : σ p = 2091
    · rw [if_pos c]; exact hp
    · rw [if_neg c]; exact leaf_g hT hp
  | succ d ih =>
    intro p q hp hq
    show GR _ T p q (if σ p = 2091 then pb (pSumW σ (pPart σ o d) (p + 1) q) (fun P p' q' => if σ p' = 2093 then .inl (P, p' + 1, q') else .inr p') else leaf σ o p q)
    by_cases c : σ p = 2091
    · rw [if_pos c]
      have g := pSumW_g hT ih (pT hT hp (by omega)) hq
      cases hr : pSumW σ (pPart σ o d) (p + 1) q with
      | inr e => rw [hr] at g; exact g
      | inl x =>
        obtain ⟨P, p', q'⟩ := x
        rw [hr] at g
        rw [pb_l]
        have h3 := (GR_l.mp g).2.2.1
        by_cases c2 : σ p' = 2093
        · rw [if_pos c2]; exact GR_sh g (by omega) (pT hT h3 (by omega))
        · rw [if_neg c2]; exact h3
    · rw [if_neg c]; exact leaf_g hT hp
theorem pSum_g {σ : Nat → Nat} {o : Bool} {T : Nat} (hT : σ T = 4000) (d : Nat) {p q : Nat} (hp : p ≤ T) (hq : q ≤ 50) : GR (wfS (nfo o)) T p q (pSum σ o d p q) := pSumW_g hT (pPart_g hT d) hp hq
theorem pCmp_g {σ : Nat → Nat} {o : Bool} {T : Nat} (hT : σ T = 4000) (d : Nat) {p q : Nat} (hp : p ≤ T) (hq : q ≤ 50) : GR (wfB (nfo o)) T p q (pCmp σ o d p q) := by
  unfold pCmp
  have g := pSum_g (o := o) hT d hp hq
  cases hr : pSum σ o d p q with
  | inr e => rw [hr] at g; exact g
  | inl x =>
    obtain ⟨P, p', q'⟩ := x
    rw [hr] at g
    obtain ⟨h1, h2, h3, h4, h5, h6⟩ := GR_l.mp g
    rw [pb_l]
    by_cases c : opC (σ p') = 0
    · rw [if_pos c]; exact h3
    · rw [if_neg c]
      have oo := (opC_ok (σ p')).resolve_left c
      have g2 := pSum_g (o := o) hT d (pT hT h3 oo.2.2) h5
      cases hr2 : pSum σ o d (p' + 1) q' with
      | inr e => rw [hr2] at g2; exact g2
      | inl x =>
        obtain ⟨Q, p2, q2⟩ := x
        rw [hr2] at g2
        obtain ⟨g1, g2', g3, g4, g5, g6⟩ := GR_l.mp g2
        rw [pb_l]
        refine GR_l.mpr ⟨wfB_op h1 g1 ⟨oo.1, oo.2.1⟩, ?_, g3, ?_, g5, ?_⟩
        · simp only [List.length_append, List.length_cons, List.length_nil]; omega
        · rw [pushes_app, pushes_app]; have : pushes [((opC (σ p'), 0) : Ins)] = 0 := by
            show (if opC (σ p') = 1 ∨ opC (σ p') = 2 then 1 else 0) + 0 = 0
            rw [if_neg (by omega)]
          omega
        · simp only [List.length_append]; omega
theorem nots_g {σ : Nat → Nat} {T : Nat} (hT : σ T = 4000) : ∀ (n : Nat) {p : Nat} {b : Bool}, p ≤ T → p + (if b = true then 0 else 0) ≤ (nots σ n p b).1 ∧ (nots σ n p b).1 ≤ T := by
  intro n
  induction n with
  | zero => intro p b h; exact ⟨by show p + _ ≤ p; cases b <;> simp, h⟩
  | succ n ih =>
    intro p b h
    rw [nots_s]
    by_cases c : σ p = 3012
    · rw [if_pos c]
      have := ih (p := p + 1) (b := !b) (pT hT h (by omega))
      refine ⟨?_, this.2⟩
      have t := this.1
      cases b <;> simp at t ⊢ <;> omega
    · rw [if_neg c]; exact ⟨by show p + _ ≤ p; cases b <;> simp, h⟩
/-- one who turns has taken a token more -/
theorem nots_b {σ : Nat → Nat} : ∀ (n : Nat) {p : Nat} {b : Bool}, p + (if (nots σ n p b).2 = b then 0 else 1) ≤ (nots σ n p b).1 := by
  intro n
  induction n with
  | zero => intro p b; show p + (if b = b then 0 else 1) ≤ p; rw [if_pos rfl]; omega
  | succ n ih =>
    intro p b
    rw [nots_s]
    by_cases c : σ p = 3012
    · rw [if_pos c]
      have := ih (p := p + 1) (b := !b)
      have le : (if (nots σ n (p + 1) (!b)).2 = b then 0 else 1) ≤ 1 := by by_cases x : (nots σ n (p + 1) (!b)).2 = b <;> simp [x]
      omega
    · rw [if_neg c]; show p + (if b = b then 0 else 1) ≤ p; rw [if_pos rfl]; omega
theorem pPlainW_g {σ : Nat → Nat} {o : Bool} {T : Nat} (hT : σ T = 4000) {brk : Nat → Nat → PR} (hb : ∀ p q, p ≤ T → q ≤ 50 → σ p = 2040 → GR (wfB (nfo o)) T p q (brk p q)) (d : Nat) {p q : Nat} (hp : p ≤ T) (hq : q ≤ 50) : GR (wfB (nfo o)) T p q (pPlainW σ o brk d p q) := by
  unfold pPlainW pPos
  have n1 := (nots_g hT 402 (b := false) hp).2
  have n2 := nots_b (σ := σ) 402 (p := p) (b := false)
  generalize (nots σ 402 p false).1 = p1 at n1 n2 ⊢
  generalize (nots σ 402 p false).2 = b at n2 ⊢
  have key : GR (wfB (nfo o)) T p1 q (if σ p1 = 2040 then brk p1 q else pCmp σ o d p1 q) := by
    by_cases c : σ p1 = 2040
    · rw [if_pos c]; exact hb p1 q n1 hq c
    · rw [if_neg c]; exact pCmp_g hT d n1 hq
  generalize (if σ p1 = 2040 then brk p1 q else pCmp σ o d p1 q) = r at key ⊢
  cases r with
  | inr e => exact key
  | inl x =>
    obtain ⟨P, p', q'⟩ := x
    obtain ⟨h1, h2, h3, h4, h5, h6⟩ := GR_l.mp key
    rw [pb_l]
    refine GR_l.mpr ⟨wfB_tn h1 b, ?_, h3, ?_, h5, ?_⟩
    · rw [List.length_append]
      cases b with
      | false => show P.length + 0 + p ≤ p'; rw [if_pos rfl] at n2; omega
      | true => show P.length + 1 + p ≤ p'; rw [if_neg (by decide)] at n2; omega
    · rw [pushes_app]
      have : pushes (tn b) = 0 := by cases b <;> rfl
      omega
    · rw [List.length_append]; omega
theorem lj_g {σ : Nat → Nat} {nf T : Nat} (hT : σ T = 4000) {w k : Nat} (hw : w ≠ 4000) (hk : k = 4 ∨ k = 5) {sub : Nat → Nat → PR} (hs : ∀ p q, p ≤ T → q ≤ 50 → GR (wfB nf) T p q (sub p q)) {p0 q0 : Nat} : ∀ (n : Nat) {P : List Ins} {p q : Nat}, GR (wfB nf) T p0 q0 (.inl (P, p, q)) → GR (wfB nf) T p0 q0 (lj σ w k sub n P p q) := by
  intro n
  induction n with
  | zero => intro P p q h; exact h
  | succ n ih =>
    intro P p q h
    rw [lj_s]
    by_cases c : σ p = w
    · rw [if_pos c]
      obtain ⟨h1, h2, h3, h4, h5, h6⟩ := GR_l.mp h
      have hp1 := pT hT h3 (by omega)
      have g := hs (p + 1) q hp1 h5
      cases hr : sub (p + 1) q with
      | inr e => rw [hr] at g; exact g
      | inl x =>
        obtain ⟨Q, p', q'⟩ := x
        rw [hr] at g
        obtain ⟨g1, g2, g3, g4, g5, g6⟩ := GR_l.mp g
        rw [pb_l]
        refine ih (GR_l.mpr ⟨wfB_j hk h1 g1, ?_, g3, ?_, g5, ?_⟩)
        · simp only [List.length_append, List.length_cons]; omega
        · rw [pushes_app]
          have : pushes ((k, Q.length) :: Q) = pushes Q := by
            show (if k = 1 ∨ k = 2 then 1 else 0) + pushes Q = pushes Q
            rw [if_neg (by omega)]; omega
          omega
        · simp only [List.length_append]; omega
    · rw [if_neg c]; exact h
theorem pBothW_g {σ : Nat → Nat} {nf T : Nat} (hT : σ T = 4000) {plain : Nat → Nat → PR} (hs : ∀ p q, p ≤ T → q ≤ 50 → GR (wfB nf) T p q (plain p q)) (p q : Nat) (hp : p ≤ T) (hq : q ≤ 50) : GR (wfB nf) T p q (pBothW σ plain p q) := by
  unfold pBothW
  have g := hs p q hp hq
  cases hr : plain p q with
  | inr e => rw [hr] at g; exact g
  | inl x => rw [hr] at g; exact lj_g hT (by omega) (.inl rfl) hs _ g
theorem pTestW_g {σ : Nat → Nat} {nf T : Nat} (hT : σ T = 4000) {plain : Nat → Nat → PR} (hs : ∀ p q, p ≤ T → q ≤ 50 → GR (wfB nf) T p q (plain p q)) (p q : Nat) (hp : p ≤ T) (hq : q ≤ 50) : GR (wfB nf) T p q (pTestW σ plain p q) := by
  unfold pTestW
  have g := pBothW_g hT hs p q hp hq
  cases hr : pBothW σ plain p q with
  | inr e => rw [hr] at g; exact g
  | inl x => rw [hr] at g; exact lj_g hT (by omega) (.inr rfl) (pBothW_g hT hs) _ g
theorem pPlain_g {σ : Nat → Nat} {o : Bool} {T : Nat} (hT : σ T = 4000) : ∀ (d : Nat) (p q : Nat), p ≤ T → q ≤ 50 → GR (wfB (nfo o)) T p q (pPlain σ o d p q) := by
  intro d
  induction d with
  | zero => intro p q hp hq; exact pPlainW_g hT (brk := fun p _ => .inr p) (fun p q h _ _ => (show p ≤ T from h)) 0 hp hq
  | succ d ih =>
    intro p q hp hq
    refine pPlainW_g hT (fun p q h1 h2 h3 => ?_) (d + 1) hp hq
    unfold pBrk
    have g := pTestW_g hT ih (p + 1) q (pT hT h1 (by omega)) h2
    cases hr : pTestW σ (pPlain σ o d) (p + 1) q with
    | inr e => rw [hr] at g; exact g
    | inl x =>
      obtain ⟨P, p', q'⟩ := x
      rw [hr] at g
      rw [pb_l]
      have k3 := (GR_l.mp g).2.2.1
      by_cases c2 : σ p' = 2041
      · rw [if_pos c2]; exact GR_sh g (by omega) (pT hT k3 (by omega))
      · rw [if_neg c2]; exact k3
theorem pTest_g {σ : Nat → Nat} {o : Bool} {T : Nat} (hT : σ T = 4000) (d : Nat) {p q : Nat} (hp : p ≤ T) (hq : q ≤ 50) : GR (wfB (nfo o)) T p q (pTest σ o d p q) := pTestW_g hT (pPlain_g hT d) p q hp hq
