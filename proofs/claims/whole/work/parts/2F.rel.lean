/-! WHAT BOTH SIDES TELL: the class's cells (in sx), the model's (in sm) -/
/-- abstract code of a SUM or a TEST: (what, number): 1 a number, 2 a fact, 3 turned round, 4 and-skip, 5 or-skip (how many are skipped), 7 .. 14 the signs -/
abbrev Ins : Type := Nat × Nat
/-- one sign worked off: none if BROKEN -/
def FARI : Int64 := 1000000000
def opr (o : Nat) (a b : Int64) : Int64 :=
  if o = 7 then a + b else if o = 8 then a - b else if o = 9 then a * b else if o = 10 then a / b else if o = 11 then g_lrem a b
  else if o = 12 then (if a < b then 1 else 0) else if o = 13 then (if b < a then 1 else 0) else (if a = b then 1 else 0)
def opn (o : Nat) (a b : Int64) : Option Int64 :=
  if (o = 10 ∨ o = 11) ∧ b = 0 then none
  else if FARI < opr o a b ∨ opr o a b < -FARI then none else some (opr o a b)
/-- none: stuck; some none: BROKEN; else what is left to be skipped, and the stack -/
def evA (F : Nat → Int32) : List Ins → Nat → List Int64 → Option (Option (Nat × List Int64))
  | [], n, k => some (some (n, k))
  | _ :: r, n + 1, k => evA F r n k
  | i :: r, 0, k =>
    if i.1 = 1 then evA F r 0 (Int64.ofNat i.2 :: k)
    else if i.1 = 2 then evA F r 0 ((F i.2).toInt64 :: k)
    else match k with
      | [] => none
      | a :: t =>
        if i.1 = 3 then evA F r 0 ((1 - a) :: t)
        else if i.1 = 4 then (if a = 0 then evA F r i.2 k else if a = 1 then evA F r 0 t else none)
        else if i.1 = 5 then (if a = 1 then evA F r i.2 k else if a = 0 then evA F r 0 t else none)
        else match t with
          | [] => none
          | b :: u => match opn i.1 b a with
            | none => some none
            | some v => evA F r 0 (v :: u)
/-- how many it puts on the stack -/
def pushes : List Ins → Nat
  | [] => 0
  | i :: r => (if i.1 = 1 ∨ i.1 = 2 then 1 else 0) + pushes r
def okIns (nf : Nat) (i : Ins) : Prop := (i.1 = 1 ∧ i.2 ≤ 1000) ∨ (i.1 = 2 ∧ i.2 < nf) ∨ i.1 = 3 ∨ i.1 = 4 ∨ i.1 = 5 ∨ (7 ≤ i.1 ∧ i.1 ≤ 14)
/-- skips stay within -/
def skOK : List Ins → Prop
  | [] => True
  | i :: r => ((i.1 = 4 ∨ i.1 = 5) → i.2 ≤ r.length) ∧ skOK r
/-- a SUM: it puts one number ahead of all that was there -/
def wfS (nf : Nat) (P : List Ins) : Prop := (∀ i ∈ P, okIns nf i) ∧ skOK P ∧ ∀ F k, evA F P 0 k = some none ∨ ∃ v, evA F P 0 k = some (some (0, v :: k))
/-- a TEST: it leaves 0 or 1 -/
def wfT (nf : Nat) (P : List Ins) : Prop := (∀ i ∈ P, okIns nf i) ∧ skOK P ∧ ∀ F, evA F P 0 [] = some none ∨ ∃ v, (v = 0 ∨ v = 1) ∧ evA F P 0 [] = some (some (0, [v]))
/-- the class's code of it, at a place -/
def encx (q : Nat) (i : Ins) : Int := 4096 * i.1 + (if i.1 = 1 ∨ i.1 = 2 then (i.2 : Int) else if i.1 = 4 ∨ i.1 = 5 then q + 1 + i.2 else 0)
def EncX (c : Nat → Int32) : Nat → List Ins → Prop
  | _, [] => True
  | q, i :: r => (c q).toInt = encx q i ∧ EncX c (q + 1) r
/-- the model's code and value of it -/
def encm (i : Ins) : Int :=
  if i.1 = 1 then 50 else if i.1 = 2 then 8 + i.2 else if i.1 = 3 then 7 else if i.1 = 4 then 6 else if i.1 = 5 then 5
  else if i.1 = 7 then 143 else if i.1 = 8 then 145 else if i.1 = 9 then 142 else if i.1 = 10 then 147 else if i.1 = 11 then 137
  else if i.1 = 12 then 160 else if i.1 = 13 then 162 else 161
def EncM (c v : Nat → Int32) : Nat → List Ins → Prop
  | _, [] => True
  | k, i :: r => (c k).toInt = encm i ∧ (i.1 = 1 → (v k).toInt = i.2) ∧ (i.1 = 4 ∨ i.1 = 5 → (v k).toInt = k + 1 + i.2) ∧ EncM c v (k + 1) r
/-- a CLAUSE of a LAW: 0 costs, 1 pays, 2 bars; its SUM; its TEST, if it has one -/
abbrev Cla : Type := Nat × List Ins × Option (List Ins)
def segX (c : Nat → Int32) (len : Nat) (p : Nat) (P : List Ins) : Prop := EncX c p P ∧ (c (p + P.length)).toInt = 24576 ∧ p + P.length < len
def claX (sx : Sg) (t : Nat) (j : Nat) (c : Cla) : Prop :=
  (rI sx 31 t j).toInt = c.1 ∧ (c.1 ≠ 2 → ∃ p : Nat, (rI sx 33 t j).toInt = p ∧ segX (sx.1 36 t) (rN sx 36 t 0) p c.2.1) ∧
  (match c.2.2 with
    | none => (rI sx 35 t j).toInt = -1
    | some T => ∃ p : Nat, (rI sx 35 t j).toInt = p ∧ segX (sx.1 36 t) (rN sx 36 t 0) p T)
def clasX (sx : Sg) (t : Nat) : Nat → List Cla → Prop
  | _, [] => True
  | j, c :: r => claX sx t j c ∧ clasX sx t (j + 1) r
def claLen (c : Cla) : Nat := 1 + c.2.1.length + (match c.2.2 with | none => 0 | some T => 1 + T.length)
def claM (cd vl : Nat → Int32) (k : Nat) (c : Cla) : Prop :=
  (cd k).toInt = c.1 + 1 ∧ (vl k).toInt = k + claLen c ∧ EncM cd vl (k + 1) c.2.1 ∧
  (match c.2.2 with
    | none => True
    | some T => (cd (k + 1 + c.2.1.length)).toInt = 4 ∧ EncM cd vl (k + 1 + c.2.1.length + 1) T)
def clasM (cd vl : Nat → Int32) : Nat → List Cla → Prop
  | _, [] => True
  | k, c :: r => claM cd vl k c ∧ clasM cd vl (k + claLen c) r
def clasLen : List Cla → Nat
  | [] => 0
  | c :: r => claLen c + clasLen r
def wfC (c : Cla) : Prop :=
  c.1 ≤ 2 ∧ (c.1 = 2 → c.2.1 = []) ∧ (c.1 ≠ 2 → wfS 8 c.2.1) ∧ pushes c.2.1 ≤ 50 ∧ (∀ T, c.2.2 = some T → wfT 8 T ∧ pushes T ≤ 50)
def noLine (P : List Ins) : Prop := ∀ i ∈ P, ¬ (i.1 = 2 ∧ i.2 = 0)
def noLineC (c : Cla) : Prop := noLine c.2.1 ∧ ∀ T, c.2.2 = some T → noLine T
/-- text t of the class and the model's ops tell one LAW -/
def lawC (sx : Sg) (t : Nat) (C : List Cla) : Prop :=
  C.length ≤ 12 ∧ (rI sx 8 t 6).toInt = C.length ∧ clasX sx t 0 C ∧ isB (rI sx 8 t 8) ∧ (rI sx 8 t 8 = 0 → ∀ c ∈ C, noLineC c) ∧ rN sx 36 t 0 ≤ 512
def lawM (n : Int32) (cd vl : Nat → Int32) (C : List Cla) : Prop :=
  n.toInt = clasLen C ∧ clasLen C ≤ 400 ∧ clasM cd vl 0 C
def LawR (sx : Sg) (t : Nat) (f : Nat → Int32) (l : Nat) : Prop :=
  ∃ C : List Cla, (∀ c ∈ C, wfC c) ∧ lawC sx t C ∧ lawM (f (58 + l)) (fun k => f (65 + 400 * l + k)) (fun k => f (2865 + 400 * l + k)) C
/-- the model's row is as it must be -/
def MW (f : Nat → Int32) : Prop :=
  (0 ≤ (f 54).toInt ∧ (f 54).toInt ≤ 12) ∧
  (∀ w : Nat, (w : Int) < (f 54).toInt → (1 ≤ (f (2 + w)).toInt ∧ (f (2 + w)).toInt ≤ 20) ∧ (0 ≤ (f (15 + w)).toInt ∧ (f (15 + w)).toInt < (f (2 + w)).toInt) ∧ 0 ≤ (f (27 + w)).toInt ∧ (f (27 + w)).toInt ≤ 3) ∧
  ((∀ w : Nat, (f 54).toInt ≤ w + 1 → bt (f 0) w = false) ∧ ∀ w : Nat, (f 54).toInt ≤ w → bt (f 1) w = false) ∧
  ((0 ≤ (f 14).toInt ∧ (f 14).toInt ≤ 999) ∧ (0 ≤ (f 51).toInt ∧ (f 51).toInt ≤ 10) ∧ (0 ≤ (f 52).toInt ∧ (f 52).toInt ≤ 9) ∧ 10 ≤ (f 53).toInt ∧ (f 53).toInt ≤ 60) ∧
  ((0 ≤ (f 55).toInt ∧ (f 55).toInt ≤ 6) ∧ ∀ k : Nat, (k : Int) < (f 55).toInt → (0 ≤ (f (39 + 2 * k)).toInt ∧ (f (39 + 2 * k)).toInt ≤ 3) ∧ 0 ≤ (f (40 + 2 * k)).toInt ∧ (f (40 + 2 * k)).toInt ≤ 999) ∧
  (0 ≤ (f 56).toInt ∧ (f 56).toInt ≤ 6) ∧ -1 ≤ (f 57).toInt ∧ (f 57).toInt < (f 56).toInt
/-- galley g of the class tells the same -/
def GX (sx : Sg) (g : Nat) (f : Nat → Int32) : Prop :=
  (rI sx 1 g 7 = f 54 ∧ rI sx 1 g 8 = f 0 ∧ rI sx 1 g 9 = f 1) ∧
  (∀ w : Nat, (w : Int) < (f 54).toInt → rI sx 12 g w = f (2 + w) ∧ rI sx 13 g w = f (15 + w) ∧ rI sx 14 g w = f (27 + w)) ∧
  (rI sx 15 g 0 = f 14 ∧ rI sx 15 g 1 = f 51 ∧ rI sx 15 g 2 = f 52 ∧ rI sx 15 g 3 = f 53) ∧
  (rI sx 1 g 10 = f 55 ∧ ∀ k : Nat, (k : Int) < (f 55).toInt → rI sx 16 g k = f (39 + 2 * k) ∧ rI sx 17 g k = f (40 + 2 * k)) ∧
  rI sx 1 g 11 = f 56 ∧ rI sx 1 g 12 = f 57
/-- its LAWS -/
def LX (sx : Sg) (g : Nat) (f : Nat → Int32) : Prop :=
  ∀ l : Nat, (l : Int) < (f 56).toInt → ∃ t, 1 ≤ t ∧ t < rN sx 79 0 0 ∧ rN sx 18 g l = t + 1 ∧ LawR sx t f l
def GA (sx : Sg) (g : Nat) (f : Nat → Int32) : Prop := MW f ∧ GX sx g f ∧ LX sx g f
/-- the tape, and single numbers -/
def InvA (sx sm : Sg) : Prop :=
  (rI sx 9 0 13 = rI sm 10 0 13 ∧ 0 ≤ (rI sm 10 0 13).toInt ∧ (rI sm 10 0 13).toInt ≤ 400) ∧
  (∀ i : Nat, (i : Int) < (rI sm 10 0 13).toInt → rI sx 39 0 i = rI sm 48 0 i ∧ -128 ≤ (rI sm 48 0 i).toInt ∧ (rI sm 48 0 i).toInt ≤ 127) ∧
  (rI sx 9 0 14 = rI sm 10 0 6 ∧ rI sx 9 0 15 = rI sm 10 0 58 ∧ rI sx 9 0 16 = rI sm 10 0 0 ∧ rI sx 6 0 6 = rI sm 10 0 14) ∧
  rI sx 41 0 0 = rI sm 42 0 1 ∧ rI sx 41 0 1 = rI sm 42 0 2 ∧ rI sx 41 0 2 = rI sm 42 0 3 ∧ rI sx 41 0 3 = rI sm 42 0 5 ∧ rI sx 41 0 4 = rI sm 42 0 6
/-- how one thing done leads from a row to the next -/
def Step (f : Nat → Int32) (v w ww : Int32) (a b : Nat → Int32) : Prop :=
  (v = 0 ∧ 0 ≤ w.toInt ∧ w.toInt + 1 < (f 54).toInt ∧ a 0 = b 0 ^^^ (1 <<< (w &&& 31)) ∧ ∀ i, 0 < i → i < 15 → a i = b i) ∨
  (v = 1 ∧ 0 ≤ w.toInt ∧ w.toInt < (f 54).toInt ∧ 0 < (f (15 + w.toInt.toNat)).toInt ∧ a 1 = b 1 ^^^ (1 <<< (w &&& 31)) ∧ ∀ i, i < 15 → i ≠ 1 → a i = b i) ∨
  (v = 2 ∧ 0 ≤ w.toInt ∧ w.toInt < (f 54).toInt ∧ a (2 + w.toInt.toNat) = ww ∧ ¬ b (2 + w.toInt.toNat) = ww ∧ (f (15 + w.toInt.toNat)).toInt < ww.toInt ∧ ww.toInt ≤ 20 ∧ ∀ i, i < 15 → i ≠ 2 + w.toInt.toNat → a i = b i) ∨
  (v = 3 ∧ b 14 = a 14 + 1 ∧ 0 ≤ (a 14).toInt ∧ (a 14).toInt < 999 ∧ ∀ i, i < 14 → a i = b i)
/-- the rows that can be gone back to, the newest last: that which stands now -/
def Sv (sm : Sg) (h : Nat) (j i : Nat) : Int32 := if j < h then rI sm 59 0 (16 * j + i) else rI sm 43 0 i
def LogR (sx sm : Sg) : Prop :=
  ∃ h : Nat, h ≤ 16 ∧ (rI sx 3 0 3).toInt = h ∧ (rI sm 10 0 46).toInt = h ∧
    ∀ j, j < h → rI sx 20 0 j = rI sm 59 0 (16 * j + 15) ∧ Step (sm.1 43 0) (rI sx 20 0 j) (rI sx 21 0 j) (rI sx 22 0 j) (Sv sm h j) (Sv sm h (j + 1))
def InvB (sx sm : Sg) : Prop :=
  GA sx 0 (sm.1 43 0) ∧ rI sm 10 0 36 = rI sm 43 0 54 ∧ ∀ w : Nat, (w : Int) < (rI sm 43 0 54).toInt → (rI sm 57 0 w).toInt = w
def imf (sm : Sg) (k : Nat) : Nat → Int32 := fun i => rI sm 44 0 (5665 * k + i)
def InvC (sx sm : Sg) : Prop :=
  ∀ k, k < 2 → rI sx 38 0 k = rI sm 45 0 k ∧ isB (rI sm 45 0 k) ∧ (¬ rI sm 45 0 k = 0 → GA sx (3 + k) (imf sm k))
def InvE (sx sm : Sg) : Prop :=
  ((rI sm 10 0 66).toInt = -1 ∧ (rI sx 1 2 7).toInt = 0) ∨
  (rI sx 1 2 7 = rI sm 10 0 66 ∧ 0 ≤ (rI sm 10 0 66).toInt ∧ (rI sm 10 0 66).toInt ≤ 12 ∧ rI sx 1 2 8 = rI sm 73 0 0 ∧ rI sx 1 2 9 = rI sm 73 0 1 ∧
    ∀ w : Nat, (w : Int) < (rI sm 10 0 66).toInt → rI sx 12 2 w = rI sm 73 0 (2 + w))
def mwords : List Int32 := [99, 111, 115, 116, 115, 32, 112, 97, 121, 115, 32, 98, 97, 114, 115, 32, 105, 102, 32, 111, 114, 32, 97, 110, 100, 32, 110, 111, 116, 32, 108, 105, 110, 101, 32, 112, 105, 101, 99, 101, 115, 32, 115, 104, 111, 114, 116, 32, 104, 121, 112, 104, 101, 110, 32, 108, 97, 115, 116, 32, 107, 105, 110, 100, 32, 109, 111, 111, 100, 32, 112, 114, 111, 111, 102, 32, 100, 111, 110, 101, 32, 108, 97, 116, 101, 115, 116, 32, 108, 105, 110, 101, 115, 32, 102, 105, 116, 32, 119, 105, 100, 101, 32, 101, 110, 100, 115, 32, 101, 110, 100, 32, 115, 112, 108, 105, 116, 32, 115, 119, 101, 108, 108, 32, 116, 111, 32, 112, 97, 115, 115, 32, 116, 105, 109, 101, 115, 32]
def InvF (sx sm : Sg) : Prop :=
  (rI sx 76 0 0 = 0 ∧ rI sx 76 0 1 = 0 ∧ rI sx 76 0 2 = 0 ∧ rI sx 76 0 3 = 10) ∧
  (rI sx 77 0 0 = 999 ∧ rI sx 77 0 1 = 10 ∧ rI sx 77 0 2 = 9 ∧ rI sx 77 0 3 = 60) ∧
  (rI sx 78 0 0 = 1 ∧ rI sx 78 0 1 = 3 ∧ rI sx 78 0 2 = 4 ∧ rI sx 78 0 3 = 2) ∧
  (rN sx 36 0 0 = 512 ∧ ((rN sx 7 0 1 = 0 ∧ rN sx 7 0 2 = 1) ∨ (rN sx 7 0 1 = 1 ∧ rN sx 7 0 2 = 0)) ∧ 1 ≤ rN sx 79 0 0) ∧
  ∀ i, i < 138 → rI sm 47 0 i = nth mwords i 0
def Inv (sx sm : Sg) : Prop := InvA sx sm ∧ InvB sx sm ∧ LogR sx sm ∧ InvC sx sm ∧ InvE sx sm ∧ InvF sx sm
/-- a call of both: they answer alike, and all is as it must be; no more than one text is made -/
def Call {α : Type} (sx sm : Sg) (x m : Option (Sg × α)) : Prop :=
  ∃ sx' sm' r, x = some (sx', r) ∧ m = some (sm', r) ∧ Inv sx' sm' ∧ rN sx' 79 0 0 ≤ rN sx 79 0 0 + 1
