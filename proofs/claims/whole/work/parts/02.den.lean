/-! THE PURE MACHINE: values, state, acts; a block of code is a list of acts, each at its place -/
abbrev PV : Type := Int32 ⊕ (Int64 ⊕ Option (Nat × Nat))
abbrev Sg : Type := (Nat → Nat → Nat → Int32) × ((Nat → Nat → Nat → Int64) × (Nat → Nat → Nat → Nat))
abbrev Lc : Type := List (Option PV)
abbrev Bk (ρ : Type) : Type := Lc → List PV → Sg → Option ρ
abbrev Rt (ρ : Type) : Type := Sg → Option PV → Option ρ
abbrev Fn : Type 1 := ∀ ρ : Type, Sg → List PV → (Sg → Option PV → Option ρ) → Option ρ
def u3 {α : Type} (f : Nat → Nat → Nat → α) (k i s : Nat) (v : α) : Nat → Nat → Nat → α := fun k' i' s' => if k' = k ∧ i' = i ∧ s' = s then v else f k' i' s'
def rI (σ : Sg) (k i s : Nat) : Int32 := σ.1 k i s
def rL (σ : Sg) (k i s : Nat) : Int64 := σ.2.1 k i s
def rN (σ : Sg) (k i s : Nat) : Nat := σ.2.2 k i s
def wI (σ : Sg) (k i s : Nat) (v : Int32) : Sg := (u3 σ.1 k i s v, σ.2)
def wL (σ : Sg) (k i s : Nat) (v : Int64) : Sg := (σ.1, (u3 σ.2.1 k i s v, σ.2.2))
def wN (σ : Sg) (k i s : Nat) (v : Nat) : Sg := (σ.1, (σ.2.1, u3 σ.2.2 k i s v))
def nth {α : Type} : List α → Nat → α → α
  | [], _, d => d
  | x :: _, 0, _ => x
  | _ :: t, n + 1, d => nth t n d
/-- a branch: its condition is any statement (so nothing of it is worked out when terms are compared) -/
noncomputable def gif {ρ : Type} (p : Prop) (x y : Option ρ) : Option ρ := @ite _ p (Classical.propDecidable p) x y
noncomputable def gd {ρ : Type} (p : Prop) (x : Option ρ) : Option ρ := @ite _ p (Classical.propDecidable p) x none
def isB (x : Int32) : Prop := x = 0 ∨ x = 1
def inb (i : Int32) (n : Nat) : Prop := vp_in i n
def ix (i : Int32) : Nat := i.toNatClampNeg
def lget : Lc → Nat → Option PV
  | [], _ => none
  | x :: _, 0 => x
  | _ :: t, n + 1 => lget t n
def lset : Lc → Nat → Option PV → Lc
  | [], _, _ => []
  | _ :: t, 0, v => v :: t
  | x :: t, n + 1, v => x :: lset t n v
def isJ (v : Option PV) : Bool := match v with
  | some (.inr (.inl _)) => true
  | _ => false
/-- does a long begin one place ahead? -/
def lbef (ls : Lc) (n : Nat) : Bool := match n with
  | 0 => false
  | n + 1 => isJ (lget ls n)
section Acts
variable {ρ : Type}
noncomputable def s_ic (v : Int32) (k : Bk ρ) : Bk ρ := fun ls st σ => k ls (.inl v :: st) σ
noncomputable def s_lc (v : Int64) (k : Bk ρ) : Bk ρ := fun ls st σ => k ls (.inr (.inl v) :: st) σ
noncomputable def s_null (k : Bk ρ) : Bk ρ := fun ls st σ => k ls (.inr (.inr none) :: st) σ
noncomputable def s_ldI (n : Nat) (k : Bk ρ) : Bk ρ := fun ls st σ => match lget ls n with
  | some (.inl x) => k ls (.inl x :: st) σ
  | _ => none
noncomputable def s_ldL (n : Nat) (k : Bk ρ) : Bk ρ := fun ls st σ => match lget ls n with
  | some (.inr (.inl x)) => k ls (.inr (.inl x) :: st) σ
  | _ => none
noncomputable def s_ldA (n : Nat) (k : Bk ρ) : Bk ρ := fun ls st σ => match lget ls n with
  | some (.inr (.inr x)) => k ls (.inr (.inr x) :: st) σ
  | _ => none
noncomputable def s_stI (n : Nat) (k : Bk ρ) : Bk ρ := fun ls st σ => match st with
  | .inl x :: rest => (match lbef ls n with | false => k (lset ls n (some (.inl x))) rest σ | true => none)
  | _ => none
noncomputable def s_stIx (n : Nat) (k : Bk ρ) : Bk ρ := fun ls st σ => match st with
  | .inl x :: rest => k (lset (lset ls n none) (n + 1) (some (.inl x))) rest σ
  | _ => none
noncomputable def s_stL (n : Nat) (k : Bk ρ) : Bk ρ := fun ls st σ => match st with
  | .inr (.inl x) :: rest => (match lbef ls n with | false => k (lset (lset ls n (some (.inr (.inl x)))) (n + 1) none) rest σ | true => none)
  | _ => none
noncomputable def s_stLx (n : Nat) (k : Bk ρ) : Bk ρ := fun ls st σ => match st with
  | .inr (.inl x) :: rest => k (lset (lset (lset ls n none) (n + 1) (some (.inr (.inl x)))) (n + 2) none) rest σ
  | _ => none
noncomputable def s_stA (n : Nat) (k : Bk ρ) : Bk ρ := fun ls st σ => match st with
  | .inr (.inr x) :: rest => (match lbef ls n with | false => k (lset ls n (some (.inr (.inr x)))) rest σ | true => none)
  | _ => none
noncomputable def s_stAx (n : Nat) (k : Bk ρ) : Bk ρ := fun ls st σ => match st with
  | .inr (.inr x) :: rest => k (lset (lset ls n none) (n + 1) (some (.inr (.inr x)))) rest σ
  | _ => none
noncomputable def s_inc (n : Nat) (d : Int32) (k : Bk ρ) : Bk ρ := fun ls st σ => match lget ls n with
  | some (.inl x) => k (lset ls n (some (.inl (x + d)))) st σ
  | _ => none
noncomputable def s_bin (f : Int32 → Int32 → Int32) (k : Bk ρ) : Bk ρ := fun ls st σ => match st with
  | .inl y :: .inl x :: rest => k ls (.inl (f x y) :: rest) σ
  | _ => none
noncomputable def s_div (f : Int32 → Int32 → Int32) (k : Bk ρ) : Bk ρ := fun ls st σ => match st with
  | .inl y :: .inl x :: rest => gd (¬ y = 0) (k ls (.inl (f x y) :: rest) σ)
  | _ => none
noncomputable def s_neg (k : Bk ρ) : Bk ρ := fun ls st σ => match st with
  | .inl x :: rest => k ls (.inl (-x) :: rest) σ
  | _ => none
noncomputable def s_lbin (f : Int64 → Int64 → Int64) (k : Bk ρ) : Bk ρ := fun ls st σ => match st with
  | .inr (.inl y) :: .inr (.inl x) :: rest => k ls (.inr (.inl (f x y)) :: rest) σ
  | _ => none
noncomputable def s_ldivr (f : Int64 → Int64 → Int64) (k : Bk ρ) : Bk ρ := fun ls st σ => match st with
  | .inr (.inl y) :: .inr (.inl x) :: rest => gd (¬ y = 0) (k ls (.inr (.inl (f x y)) :: rest) σ)
  | _ => none
noncomputable def s_lcmp (k : Bk ρ) : Bk ρ := fun ls st σ => match st with
  | .inr (.inl y) :: .inr (.inl x) :: rest => k ls (.inl (lg_cmp x y) :: rest) σ
  | _ => none
noncomputable def s_i2l (k : Bk ρ) : Bk ρ := fun ls st σ => match st with
  | .inl x :: rest => k ls (.inr (.inl x.toInt64) :: rest) σ
  | _ => none
noncomputable def s_l2i (k : Bk ρ) : Bk ρ := fun ls st σ => match st with
  | .inr (.inl x) :: rest => k ls (.inl x.toInt32 :: rest) σ
  | _ => none
noncomputable def s_i2b (k : Bk ρ) : Bk ρ := fun ls st σ => match st with
  | .inl x :: rest => k ls (.inl x.toInt8.toInt32 :: rest) σ
  | _ => none
def isL (v : PV) : Bool := match v with
  | .inr (.inl _) => true
  | _ => false
noncomputable def s_dup (k : Bk ρ) : Bk ρ := fun ls st σ => match st with
  | v :: rest => (match !isL v with | true => (k ls (v :: v :: rest) σ) | false => none)
  | _ => none
noncomputable def s_dup2 (k : Bk ρ) : Bk ρ := fun ls st σ => match st with
  | v :: w :: rest => (match !isL v with | true => ((match !isL w with | true => (k ls (v :: w :: v :: w :: rest) σ) | false => none)) | false => none)
  | _ => none
noncomputable def s_pop (k : Bk ρ) : Bk ρ := fun ls st σ => match st with
  | v :: rest => (match !isL v with | true => (k ls rest σ) | false => none)
  | _ => none
noncomputable def s_eq0 (t f : Bk ρ) : Bk ρ := fun ls st σ => match st with
  | .inl x :: rest => gif (x = 0) (t ls rest σ) (f ls rest σ)
  | _ => none
noncomputable def s_lt0 (t f : Bk ρ) : Bk ρ := fun ls st σ => match st with
  | .inl x :: rest => gif (x < 0) (t ls rest σ) (f ls rest σ)
  | _ => none
noncomputable def s_gt0 (t f : Bk ρ) : Bk ρ := fun ls st σ => match st with
  | .inl x :: rest => gif (0 < x) (t ls rest σ) (f ls rest σ)
  | _ => none
noncomputable def s_ceq (t f : Bk ρ) : Bk ρ := fun ls st σ => match st with
  | .inl y :: .inl x :: rest => gif (x = y) (t ls rest σ) (f ls rest σ)
  | _ => none
noncomputable def s_clt (t f : Bk ρ) : Bk ρ := fun ls st σ => match st with
  | .inl y :: .inl x :: rest => gif (x < y) (t ls rest σ) (f ls rest σ)
  | _ => none
noncomputable def s_cgt (t f : Bk ρ) : Bk ρ := fun ls st σ => match st with
  | .inl y :: .inl x :: rest => gif (y < x) (t ls rest σ) (f ls rest σ)
  | _ => none
noncomputable def s_null0 (t f : Bk ρ) : Bk ρ := fun ls st σ => match st with
  | .inr (.inr none) :: rest => t ls rest σ
  | .inr (.inr (some _)) :: rest => f ls rest σ
  | _ => none
noncomputable def s_goto (k : Bk ρ) : Bk ρ := fun ls st σ => k ls st σ
noncomputable def swk (cs : List (Int32 × Bk ρ)) (d : Bk ρ) (x : Int32) : Bk ρ := match cs with
  | [] => d
  | c :: r => fun ls st σ => gif (x = c.1) (c.2 ls st σ) (swk r d x ls st σ)
noncomputable def s_sw (cs : List (Int32 × Bk ρ)) (d : Bk ρ) : Bk ρ := fun ls st σ => match st with
  | .inl x :: rest => swk cs d x ls rest σ
  | _ => none
noncomputable def s_iret (ret : Rt ρ) : Bk ρ := fun _ st σ => match st with
  | [.inl x] => ret σ (some (.inl x))
  | _ => none
noncomputable def s_zret (ret : Rt ρ) : Bk ρ := fun _ st σ => match st with
  | [.inl x] => gd (isB x) (ret σ (some (.inl x)))
  | _ => none
noncomputable def s_lret (ret : Rt ρ) : Bk ρ := fun _ st σ => match st with
  | [.inr (.inl x)] => ret σ (some (.inr (.inl x)))
  | _ => none
noncomputable def s_aret (ret : Rt ρ) : Bk ρ := fun _ st σ => match st with
  | [.inr (.inr x)] => ret σ (some (.inr (.inr x)))
  | _ => none
noncomputable def s_vret (ret : Rt ρ) : Bk ρ := fun _ st σ => match st with
  | [] => ret σ none
  | _ => none
end Acts
noncomputable def retI : Rt (Sg × Int32) := fun σ v => match v with
  | some (.inl x) => some (σ, x)
  | _ => none
noncomputable def retL : Rt (Sg × Int64) := fun σ v => match v with
  | some (.inr (.inl x)) => some (σ, x)
  | _ => none
noncomputable def retV : Rt Sg := fun σ v => match v with
  | none => some σ
  | _ => none
/-- a text or null: 0 for null, t + 1 for text t -/
noncomputable def retN : Rt (Sg × Nat) := fun σ v => match v with
  | some (.inr (.inr none)) => some (σ, 0)
  | some (.inr (.inr (some q))) => (match Nat.beq q.1 8 with | true => (some (σ, q.2 + 1)) | false => none)
  | _ => none
def lenTbl : List Nat := [0, 0, 0, 0, 0, 0, 0, 0, 0, 0, 0, 29, 12, 12, 12, 4, 6, 6, 6, 8, 16, 16, 16, 64, 625, 625, 625, 625, 401, 401, 7, 12, 12, 12, 12, 12, 0, 2, 2, 400, 20, 5, 7, 5665, 11330, 2, 30, 138, 400, 5, 401, 401, 401, 800, 800, 8, 400, 12, 24, 256, 256, 15625, 15625, 15625, 625, 625, 625, 26, 26, 2, 96, 21, 2, 15, 24, 256, 4, 4, 4, 0]
def etyTbl : List Nat := [9, 9, 9, 9, 9, 9, 9, 9, 9, 9, 9, 0, 0, 0, 0, 0, 0, 0, 4, 0, 0, 0, 0, 3, 0, 0, 0, 3, 0, 0, 6, 0, 0, 0, 0, 0, 0, 5, 2, 1, 3, 0, 0, 0, 0, 2, 0, 1, 1, 0, 0, 0, 0, 0, 0, 0, 3, 0, 0, 0, 0, 2, 0, 0, 0, 3, 2, 0, 0, 0, 0, 3, 3, 0, 0, 0, 0, 0, 0, 7]
/-- a static reference: kind, 1 for the index of its owner or 0 for a fixed one, the fixed one; 2: none -/
def rfTbl : List (List (Nat × Nat × Nat)) := [[(1, 0, 0), (3, 0, 0), (7, 0, 0), (4, 0, 2), (1, 0, 5), (3, 0, 1), (11, 0, 0), (0, 2, 0), (0, 2, 0)],
  [(12, 1, 0), (13, 1, 0), (14, 1, 0), (15, 1, 0), (16, 1, 0), (17, 1, 0), (18, 1, 0), (0, 2, 0), (0, 2, 0), (0, 2, 0), (0, 2, 0), (0, 2, 0), (0, 2, 0)],
  [(19, 1, 0), (4, 1, 0), (0, 2, 0), (0, 2, 0), (0, 2, 0), (0, 2, 0), (0, 2, 0), (0, 2, 0), (0, 2, 0)],
  [(20, 1, 0), (21, 1, 0), (22, 1, 0), (0, 2, 0)],
  [(23, 1, 0), (0, 2, 0)],
  [(24, 0, 0), (25, 0, 0), (26, 0, 0), (27, 0, 0), (2, 0, 1), (0, 2, 0)],
  [(8, 0, 0), (28, 0, 0), (29, 0, 0), (0, 2, 0), (0, 2, 0), (0, 2, 0), (0, 2, 0)],
  [(30, 0, 0), (0, 2, 0), (0, 2, 0), (2, 0, 0), (0, 2, 0)],
  [(31, 1, 0), (32, 1, 0), (33, 1, 0), (34, 1, 0), (35, 1, 0), (36, 1, 0), (0, 2, 0), (0, 2, 0), (0, 2, 0)],
  [(0, 0, 0), (1, 0, 0), (1, 0, 1), (1, 0, 2), (37, 0, 0), (38, 0, 0), (39, 0, 0), (6, 0, 0), (3, 0, 0), (7, 0, 0), (5, 0, 0), (40, 0, 0), (41, 0, 0), (0, 2, 0), (0, 2, 0), (0, 2, 0), (0, 2, 0)],
  [(0, 2, 0), (42, 0, 0), (43, 0, 0), (44, 0, 0), (45, 0, 0), (46, 0, 0), (0, 2, 0), (47, 0, 0), (0, 2, 0), (0, 2, 0), (0, 2, 0), (48, 0, 0), (49, 0, 0), (0, 2, 0), (0, 2, 0), (50, 0, 0), (51, 0, 0), (52, 0, 0), (0, 2, 0), (0, 2, 0), (0, 2, 0), (0, 2, 0), (53, 0, 0), (54, 0, 0), (0, 2, 0), (0, 2, 0), (0, 2, 0), (0, 2, 0), (55, 0, 0), (0, 2, 0), (0, 2, 0), (0, 2, 0), (0, 2, 0), (56, 0, 0), (0, 2, 0), (57, 0, 0), (0, 2, 0), (0, 2, 0), (0, 2, 0), (0, 2, 0), (0, 2, 0), (0, 2, 0), (58, 0, 0), (0, 2, 0), (59, 0, 0), (60, 0, 0), (0, 2, 0), (61, 0, 0), (62, 0, 0), (63, 0, 0), (64, 0, 0), (65, 0, 0), (66, 0, 0), (67, 0, 0), (68, 0, 0), (69, 0, 0), (70, 0, 0), (71, 0, 0), (0, 2, 0), (0, 2, 0), (0, 2, 0), (0, 2, 0), (0, 2, 0), (0, 2, 0), (72, 0, 0), (73, 0, 0), (0, 2, 0), (0, 2, 0)]]
def FU : Nat := 20000
def DR : Nat := 10
def g_rf (ci sl i : Nat) : Nat × Nat :=
  ((nth (nth rfTbl ci []) sl (0, 2, 0)).1, bif Nat.beq (nth (nth rfTbl ci []) sl (0, 2, 0)).2.1 1 then i else (nth (nth rfTbl ci []) sl (0, 2, 0)).2.2)
def g_ety (k : Nat) : Nat := nth etyTbl k 9
def aln (σ : Sg) (k i : Nat) : Nat := bif Nat.beq k 36 then rN σ 36 i 0 else nth lenTbl k 0
def g_nt : Nat → PV
  | 0 => .inr (.inr none)
  | t + 1 => .inr (.inr (some (8, t)))
def g_rem (x y : Int32) : Int32 := x - x / y * y
def g_lrem (x y : Int64) : Int64 := x - x / y * y
def g_max (x y : Int32) : Int32 := if x < y then y else x
def g_min (x y : Int32) : Int32 := if y < x then y else x
def g_lmax (x y : Int64) : Int64 := if y < x then x else y
def g_lmin (x y : Int64) : Int64 := if y < x then y else x
def g_cok (sp dp n : Int32) (l0 l1 : Nat) : Prop := ¬ sp < 0 ∧ ¬ dp < 0 ∧ ¬ n < 0 ∧ ix sp + ix n ≤ l0 ∧ ix dp + ix n ≤ l1
def g_cpy (σ : Sg) (k i : Nat) (sp : Int32) (k' i' : Nat) (dp n : Int32) : Sg :=
  (fun a b c => if a = k' ∧ b = i' then va_cpy (σ.1 k i) (σ.1 k' i') (ix sp) (ix dp) (ix n) c else σ.1 a b c, σ.2)
def g_fillI (σ : Sg) (k i : Nat) (v : Int32) : Sg := (fun a b c => if a = k ∧ b = i then v else σ.1 a b c, σ.2)
def g_fillL (σ : Sg) (k i : Nat) (v : Int64) : Sg := (σ.1, (fun a b c => if a = k ∧ b = i then v else σ.2.1 a b c, σ.2.2))
def g_str : List Int32 := [99, 111, 115, 116, 115, 32, 112, 97, 121, 115, 32, 98, 97, 114, 115, 32, 101, 110, 100, 32, 115, 112, 108, 105, 116, 32, 115, 119, 101, 108, 108, 32, 112, 97, 115, 115, 32, 116, 111, 32, 116, 105, 109, 101, 115, 32, 105, 102, 32, 111, 114, 32, 97, 110, 100, 32, 110, 111, 116, 32, 108, 105, 110, 101, 32, 112, 105, 101, 99, 101, 115, 32, 115, 104, 111, 114, 116, 32, 104, 121, 112, 104, 101, 110, 32, 108, 97, 115, 116, 32, 107, 105, 110, 100, 32, 109, 111, 111, 100, 32, 112, 114, 111, 111, 102, 32, 100, 111, 110, 101, 32, 108, 97, 116, 101, 115, 116, 32, 108, 105, 110, 101, 115, 32, 102, 105, 116, 32, 119, 105, 100, 101, 32, 101, 110, 100, 115, 32]
def g_strN : Nat := 138
def g_strlen : Int32 := 138
def g_strat (i : Int32) : Int32 := nth g_str (ix i) 0
/-- what stays on the stack below a call is of n words at most -/
def stOK : List PV → Nat → Bool
  | [], _ => true
  | v :: t, n => match isL v, n with
    | false, n + 1 => stOK t n
    | true, n + 2 => stOK t n
    | _, _ => false
/-- takes n values off, the deepest first -/
def popr : Nat → List PV → List PV → Option (List PV × List PV)
  | 0, acc, st => some (acc, st)
  | n + 1, acc, v :: st => popr n (v :: acc) st
  | _ + 1, _, [] => none
section Acts2
variable {ρ : Type}
/-- what a label's function (or a method's) is given, place by place: an int, a long, a reference of a kind, a fixed one, a text or null, any reference; then what is on the stack, the top first; then the end -/
noncomputable def p_I (n : Nat) (f : Int32 → Bk ρ) : Bk ρ := fun ls st σ => match lget ls n with
  | some (.inl x) => f x ls st σ
  | _ => none
noncomputable def p_L (n : Nat) (f : Int64 → Bk ρ) : Bk ρ := fun ls st σ => match lget ls n with
  | some (.inr (.inl x)) => f x ls st σ
  | _ => none
noncomputable def p_R (n kd : Nat) (f : Nat → Bk ρ) : Bk ρ := fun ls st σ => match lget ls n with
  | some (.inr (.inr (some q))) => (match Nat.beq q.1 kd with | true => f q.2 ls st σ | false => none)
  | _ => none
noncomputable def p_C (n kd c : Nat) (f : Bk ρ) : Bk ρ := fun ls st σ => match lget ls n with
  | some (.inr (.inr (some q))) => (match Nat.beq q.1 kd with | true => (match Nat.beq q.2 c with | true => f ls st σ | false => none) | false => none)
  | _ => none
noncomputable def p_N (n : Nat) (f : Nat → Bk ρ) : Bk ρ := fun ls st σ => match lget ls n with
  | some (.inr (.inr none)) => f 0 ls st σ
  | some (.inr (.inr (some q))) => (match Nat.beq q.1 8 with | true => f (q.2 + 1) ls st σ | false => none)
  | _ => none
noncomputable def p_F (n : Nat) (f : Nat → Nat → Bk ρ) : Bk ρ := fun ls st σ => match lget ls n with
  | some (.inr (.inr (some q))) => f q.1 q.2 ls st σ
  | _ => none
noncomputable def q_I (f : Int32 → Bk ρ) : Bk ρ := fun ls st σ => match st with
  | .inl x :: rest => f x ls rest σ
  | _ => none
noncomputable def q_L (f : Int64 → Bk ρ) : Bk ρ := fun ls st σ => match st with
  | .inr (.inl x) :: rest => f x ls rest σ
  | _ => none
noncomputable def q_R (kd : Nat) (f : Nat → Bk ρ) : Bk ρ := fun ls st σ => match st with
  | .inr (.inr (some q)) :: rest => (match Nat.beq q.1 kd with | true => f q.2 ls rest σ | false => none)
  | _ => none
noncomputable def q_C (kd c : Nat) (f : Bk ρ) : Bk ρ := fun ls st σ => match st with
  | .inr (.inr (some q)) :: rest => (match Nat.beq q.1 kd with | true => (match Nat.beq q.2 c with | true => f ls rest σ | false => none) | false => none)
  | _ => none
noncomputable def p_E (f : Sg → Option ρ) : Bk ρ := fun _ st σ => match st with
  | [] => f σ
  | _ => none
/-- a static's row (or the words' text): where the class's own objects are -/
noncomputable def s_ref (kd kx : Nat) (k : Bk ρ) : Bk ρ := fun ls st σ => match lget ls 0 with
  | some (.inr (.inr (some q))) => (match Nat.beq q.1 kx with | true => k ls (.inr (.inr (some (kd, 0))) :: st) σ | false => none)
  | _ => none
noncomputable def s_getI (ci sl : Nat) (k : Bk ρ) : Bk ρ := fun ls st σ => match st with
  | .inr (.inr (some q)) :: rest => (match Nat.beq q.1 ci with | true => (k ls (.inl (rI σ ci q.2 sl) :: rest) σ) | false => none)
  | _ => none
noncomputable def s_getL (ci sl : Nat) (k : Bk ρ) : Bk ρ := fun ls st σ => match st with
  | .inr (.inr (some q)) :: rest => (match Nat.beq q.1 ci with | true => (k ls (.inr (.inl (rL σ ci q.2 sl)) :: rest) σ) | false => none)
  | _ => none
noncomputable def s_getRc (ci sl kd c : Nat) (k : Bk ρ) : Bk ρ := fun ls st σ => match st with
  | .inr (.inr (some q)) :: rest => (match Nat.beq q.1 ci with | true => (k ls (.inr (.inr (some (kd, c))) :: rest) σ) | false => none)
  | _ => none
noncomputable def s_getRv (ci sl kd : Nat) (k : Bk ρ) : Bk ρ := fun ls st σ => match st with
  | .inr (.inr (some q)) :: rest => (match Nat.beq q.1 ci with | true => (k ls (.inr (.inr (some (kd, q.2))) :: rest) σ) | false => none)
  | _ => none
noncomputable def s_getD (sl : Nat) (k : Bk ρ) : Bk ρ := fun ls st σ => match st with
  | .inr (.inr (some q)) :: rest => (match Nat.beq q.1 7 with | true => (k ls (.inr (.inr (some (75, rN σ 7 q.2 sl))) :: rest) σ) | false => none)
  | _ => none
noncomputable def s_putI (ci sl : Nat) (k : Bk ρ) : Bk ρ := fun ls st σ => match st with
  | .inl x :: .inr (.inr (some q)) :: rest => (match Nat.beq q.1 ci with | true => (k ls rest (wI σ ci q.2 sl x)) | false => none)
  | _ => none
noncomputable def s_putZ (ci sl : Nat) (k : Bk ρ) : Bk ρ := fun ls st σ => match st with
  | .inl x :: .inr (.inr (some q)) :: rest => (match Nat.beq q.1 ci with | true => (gd (isB x) (k ls rest (wI σ ci q.2 sl x))) | false => none)
  | _ => none
noncomputable def s_putL (ci sl : Nat) (k : Bk ρ) : Bk ρ := fun ls st σ => match st with
  | .inr (.inl x) :: .inr (.inr (some q)) :: rest => (match Nat.beq q.1 ci with | true => (k ls rest (wL σ ci q.2 sl x)) | false => none)
  | _ => none
noncomputable def s_putD (sl : Nat) (k : Bk ρ) : Bk ρ := fun ls st σ => match st with
  | .inr (.inr (some v)) :: .inr (.inr (some q)) :: rest => (match Nat.beq q.1 7 with | true => ((match Nat.beq v.1 75 with | true => (k ls rest (wN σ 7 q.2 sl v.2)) | false => none)) | false => none)
  | _ => none
noncomputable def s_iald (kd n : Nat) (k : Bk ρ) : Bk ρ := fun ls st σ => match st with
  | .inl i :: .inr (.inr (some q)) :: rest => (match Nat.beq q.1 kd with | true => (gd (inb i n) (k ls (.inl (rI σ kd q.2 (ix i)) :: rest) σ)) | false => none)
  | _ => none
noncomputable def s_ialdC (k : Bk ρ) : Bk ρ := fun ls st σ => match st with
  | .inl i :: .inr (.inr (some q)) :: rest => (match Nat.beq q.1 36 with | true => (gd (inb i (rN σ 36 q.2 0)) (k ls (.inl (rI σ 36 q.2 (ix i)) :: rest) σ)) | false => none)
  | _ => none
noncomputable def s_ialdV (k : Bk ρ) : Bk ρ := fun ls st σ => match st with
  | .inl i :: .inr (.inr (some q)) :: rest => gd (g_ety q.1 = 0) (gd (inb i (aln σ q.1 q.2)) (k ls (.inl (rI σ q.1 q.2 (ix i)) :: rest) σ))
  | _ => none
noncomputable def s_bald (kd n : Nat) (k : Bk ρ) : Bk ρ := s_iald kd n k
noncomputable def s_lald (kd n : Nat) (k : Bk ρ) : Bk ρ := fun ls st σ => match st with
  | .inl i :: .inr (.inr (some q)) :: rest => (match Nat.beq q.1 kd with | true => (gd (inb i n) (k ls (.inr (.inl (rL σ kd q.2 (ix i))) :: rest) σ)) | false => none)
  | _ => none
noncomputable def s_aaldG (k : Bk ρ) : Bk ρ := fun ls st σ => match st with
  | .inl i :: .inr (.inr (some q)) :: rest => (match Nat.beq q.1 37 with | true => (gd (inb i 2) (k ls (.inr (.inr (some (1, 3 + ix i))) :: rest) σ)) | false => none)
  | _ => none
noncomputable def s_aaldT (k : Bk ρ) : Bk ρ := fun ls st σ => match st with
  | .inl i :: .inr (.inr (some q)) :: rest => (match Nat.beq q.1 30 with | true => (gd (inb i 7) (k ls (.inr (.inr (some (74, ix i))) :: rest) σ)) | false => none)
  | _ => none
noncomputable def s_aaldL (k : Bk ρ) : Bk ρ := fun ls st σ => match st with
  | .inl i :: .inr (.inr (some q)) :: rest => (match Nat.beq q.1 18 with
    | true => gd (inb i 6) (match rN σ 18 q.2 (ix i) with
      | 0 => k ls (.inr (.inr none) :: rest) σ
      | t + 1 => k ls (.inr (.inr (some (8, t))) :: rest) σ)
    | false => none)
  | _ => none
noncomputable def s_iast (kd n : Nat) (k : Bk ρ) : Bk ρ := fun ls st σ => match st with
  | .inl x :: .inl i :: .inr (.inr (some q)) :: rest => (match Nat.beq q.1 kd with | true => (gd (inb i n) (k ls rest (wI σ kd q.2 (ix i) x))) | false => none)
  | _ => none
noncomputable def s_iastC (k : Bk ρ) : Bk ρ := fun ls st σ => match st with
  | .inl x :: .inl i :: .inr (.inr (some q)) :: rest => (match Nat.beq q.1 36 with | true => (gd (inb i (rN σ 36 q.2 0)) (k ls rest (wI σ 36 q.2 (ix i) x))) | false => none)
  | _ => none
noncomputable def s_bast (ty : FieldType) (kd n : Nat) (k : Bk ρ) : Bk ρ := fun ls st σ => match st with
  | .inl x :: .inl i :: .inr (.inr (some q)) :: rest => (match Nat.beq q.1 kd with | true => (gd (inb i n) (k ls rest (wI σ kd q.2 (ix i) (vp_nar ty x)))) | false => none)
  | _ => none
noncomputable def s_last (kd n : Nat) (k : Bk ρ) : Bk ρ := fun ls st σ => match st with
  | .inr (.inl x) :: .inl i :: .inr (.inr (some q)) :: rest => (match Nat.beq q.1 kd with | true => (gd (inb i n) (k ls rest (wL σ kd q.2 (ix i) x))) | false => none)
  | _ => none
noncomputable def s_aastL (k : Bk ρ) : Bk ρ := fun ls st σ => match st with
  | .inr (.inr none) :: .inl i :: .inr (.inr (some q)) :: rest => (match Nat.beq q.1 18 with | true => (gd (inb i 6) (k ls rest (wN σ 18 q.2 (ix i) 0))) | false => none)
  | .inr (.inr (some v)) :: .inl i :: .inr (.inr (some q)) :: rest => (match Nat.beq q.1 18 with | true => ((match Nat.beq v.1 8 with | true => (gd (inb i 6) (k ls rest (wN σ 18 q.2 (ix i) (v.2 + 1)))) | false => none)) | false => none)
  | _ => none
noncomputable def s_alen (kd n : Nat) (k : Bk ρ) : Bk ρ := fun ls st σ => match st with
  | .inr (.inr (some q)) :: rest => (match Nat.beq q.1 kd with | true => (k ls (.inl (Int32.ofNat n) :: rest) σ) | false => none)
  | _ => none
noncomputable def s_alenV (k : Bk ρ) : Bk ρ := fun ls st σ => match st with
  | .inr (.inr (some q)) :: rest => gd (g_ety q.1 = 0) (k ls (.inl (Int32.ofNat (aln σ q.1 q.2)) :: rest) σ)
  | _ => none
noncomputable def s_alenC (k : Bk ρ) : Bk ρ := fun ls st σ => match st with
  | .inr (.inr (some q)) :: rest => (match Nat.beq q.1 36 with | true => (k ls (.inl (Int32.ofNat (rN σ 36 q.2 0)) :: rest) σ) | false => none)
  | _ => none
noncomputable def s_call (F : Fn) (n : Nat) (k : Bk ρ) : Bk ρ := fun ls st σ => match popr n [] st with
  | some q => (match stOK q.2 8 with
    | true => F ρ σ q.1 (fun σ' v => match v with
      | some w => k ls (w :: q.2) σ'
      | none => k ls q.2 σ')
    | false => none)
  | none => none
noncomputable def s_m2 (f : Int32 → Int32 → Int32) (k : Bk ρ) : Bk ρ := fun ls st σ => match st with
  | .inl y :: .inl x :: rest => (match stOK rest 8 with | true => k ls (.inl (f x y) :: rest) σ | false => none)
  | _ => none
noncomputable def s_lm2 (f : Int64 → Int64 → Int64) (k : Bk ρ) : Bk ρ := fun ls st σ => match st with
  | .inr (.inl y) :: .inr (.inl x) :: rest => (match stOK rest 8 with | true => k ls (.inr (.inl (f x y)) :: rest) σ | false => none)
  | _ => none
noncomputable def s_copy (k0 n0 k1 n1 : Nat) (k : Bk ρ) : Bk ρ := fun ls st σ => match st with
  | .inl n :: .inl dp :: .inr (.inr (some d)) :: .inl sp :: .inr (.inr (some q)) :: rest =>
    (match Nat.beq q.1 k0 with | true => ((match Nat.beq d.1 k1 with | true => (match stOK rest 8 with | true => (gd (g_cok sp dp n n0 n1) (k ls rest (g_cpy σ k0 q.2 sp k1 d.2 dp n))) | false => none) | false => none)) | false => none)
  | _ => none
noncomputable def s_fillI (kd : Nat) (k : Bk ρ) : Bk ρ := fun ls st σ => match st with
  | .inl x :: .inr (.inr (some q)) :: rest => (match Nat.beq q.1 kd with | true => (match stOK rest 8 with | true => (k ls rest (g_fillI σ kd q.2 x)) | false => none) | false => none)
  | _ => none
noncomputable def s_fillL (kd : Nat) (k : Bk ρ) : Bk ρ := fun ls st σ => match st with
  | .inr (.inl x) :: .inr (.inr (some q)) :: rest => (match Nat.beq q.1 kd with | true => (match stOK rest 8 with | true => (k ls rest (g_fillL σ kd q.2 x)) | false => none) | false => none)
  | _ => none
noncomputable def s_strlen (k : Bk ρ) : Bk ρ := fun ls st σ => match st with
  | .inr (.inr (some q)) :: rest => (match Nat.beq q.1 79 with | true => (match stOK rest 8 with | true => (k ls (.inl g_strlen :: rest) σ) | false => none) | false => none)
  | _ => none
noncomputable def s_strat (k : Bk ρ) : Bk ρ := fun ls st σ => match st with
  | .inl i :: .inr (.inr (some q)) :: rest => (match Nat.beq q.1 79 with | true => (match stOK rest 8 with | true => (gd (inb i g_strN) (k ls (.inl (g_strat i) :: rest) σ)) | false => none) | false => none)
  | _ => none
end Acts2
