/-! FRAMES: which cells (kind, index) a function may write; (k, 0) stands for every index of k, (k, i + 1) for index i -/
def hit : List (Nat × Nat) → Nat → Nat → Prop
  | [], _, _ => False
  | e :: t, k, i => (e.1 = k ∧ (e.2 = 0 ∨ e.2 = i + 1)) ∨ hit t k i
def Fr (L : List (Nat × Nat)) (s s' : Sg) : Prop :=
  ∀ k i, ¬ hit L k i → s'.1 k i = s.1 k i ∧ s'.2.1 k i = s.2.1 k i ∧ s'.2.2 k i = s.2.2 k i
def frG {β : Type} (π : β → Sg) (L : List (Nat × Nat)) (s : Sg) (o : Option β) : Prop := ∀ q, o = some q → Fr L s (π q)
abbrev frV (L : List (Nat × Nat)) (s : Sg) (o : Option Sg) : Prop := frG (fun x => x) L s o
abbrev frP {α : Type} (L : List (Nat × Nat)) (s : Sg) (o : Option (Sg × α)) : Prop := frG Prod.fst L s o
theorem fr_rfl {L : List (Nat × Nat)} {s : Sg} : Fr L s s := fun _ _ _ => ⟨rfl, rfl, rfl⟩
theorem Fr.trans {L : List (Nat × Nat)} {a b c : Sg} (h : Fr L a b) (g : Fr L b c) : Fr L a c := fun k i n =>
  ⟨(g k i n).1.trans (h k i n).1, (g k i n).2.1.trans (h k i n).2.1, (g k i n).2.2.trans (h k i n).2.2⟩
theorem Fr.mono {L M : List (Nat × Nat)} {a b : Sg} (h : Fr L a b) (g : ∀ k i, hit L k i → hit M k i) : Fr M a b := fun k i n =>
  h k i (fun x => n (g k i x))
theorem Fr.i {L : List (Nat × Nat)} {s s' : Sg} (h : Fr L s s') (k i : Nat) (n : ¬ hit L k i) (c : Nat) : rI s' k i c = rI s k i c := congrFun (h k i n).1 c
theorem Fr.l {L : List (Nat × Nat)} {s s' : Sg} (h : Fr L s s') (k i : Nat) (n : ¬ hit L k i) (c : Nat) : rL s' k i c = rL s k i c := congrFun (h k i n).2.1 c
theorem Fr.n {L : List (Nat × Nat)} {s s' : Sg} (h : Fr L s s') (k i : Nat) (n : ¬ hit L k i) (c : Nat) : rN s' k i c = rN s k i c := congrFun (h k i n).2.2 c
theorem hit_mem {L : List (Nat × Nat)} {k i : Nat} (h : (k, i + 1) ∈ L) : hit L k i := by
  induction L with
  | nil => cases h
  | cons e t ih =>
    rcases List.mem_cons.mp h with h | h
    · subst h; exact .inl ⟨rfl, .inr rfl⟩
    · exact .inr (ih h)
theorem hit_all {L : List (Nat × Nat)} {k i : Nat} (h : (k, 0) ∈ L) : hit L k i := by
  induction L with
  | nil => cases h
  | cons e t ih =>
    rcases List.mem_cons.mp h with h | h
    · subst h; exact .inl ⟨rfl, .inl rfl⟩
    · exact .inr (ih h)
def cov (L : List (Nat × Nat)) (e : Nat × Nat) : Prop := ∀ i, (e.2 = 0 ∨ e.2 = i + 1) → hit L e.1 i
def Sb (M L : List (Nat × Nat)) : Prop := ∀ k i, hit M k i → hit L k i
theorem cov_all {L : List (Nat × Nat)} {k x : Nat} (h : (k, 0) ∈ L) : cov L (k, x) := fun _ _ => hit_all h
theorem cov_mem {L : List (Nat × Nat)} {k x : Nat} (h : (k, x) ∈ L) : cov L (k, x) := fun i g => by
  rcases g with g | g
  · simp only at g; subst g; exact hit_all h
  · simp only at g; subst g; exact hit_mem h
theorem sb_nil {L : List (Nat × Nat)} : Sb [] L := fun _ _ h => h.elim
theorem sb_cons {L M : List (Nat × Nat)} {e : Nat × Nat} (c : cov L e) (h : Sb M L) : Sb (e :: M) L := fun k i g => by
  rcases g with ⟨g, g'⟩ | g
  · subst g; exact c i g'
  · exact h k i g
theorem u3_at {α : Type} {f : Nat → Nat → Nat → α} {k i c : Nat} {v : α} {k' i' : Nat} (h : ¬ (k = k' ∧ i = i')) : u3 f k i c v k' i' = f k' i' := by
  funext c'; unfold u3; rw [if_neg]; intro g; exact h ⟨g.1.symm, g.2.1.symm⟩
theorem nohit {L : List (Nat × Nat)} {k i k' i' : Nat} (h : hit L k i) (n : ¬ hit L k' i') : ¬ (k = k' ∧ i = i') := by
  rintro ⟨rfl, rfl⟩; exact n h
theorem fr_wI {L : List (Nat × Nat)} {s t : Sg} {k i c : Nat} {v : Int32} (h : Fr L s t) (g : hit L k i) : Fr L s (wI t k i c v) := fun k' i' n =>
  ⟨(u3_at (nohit g n)).trans (h k' i' n).1, (h k' i' n).2⟩
theorem fr_wL {L : List (Nat × Nat)} {s t : Sg} {k i c : Nat} {v : Int64} (h : Fr L s t) (g : hit L k i) : Fr L s (wL t k i c v) := fun k' i' n =>
  ⟨(h k' i' n).1, (u3_at (nohit g n)).trans (h k' i' n).2.1, (h k' i' n).2.2⟩
theorem fr_wN {L : List (Nat × Nat)} {s t : Sg} {k i c : Nat} {v : Nat} (h : Fr L s t) (g : hit L k i) : Fr L s (wN t k i c v) := fun k' i' n =>
  ⟨(h k' i' n).1, (h k' i' n).2.1, (u3_at (nohit g n)).trans (h k' i' n).2.2⟩
theorem fr_cpy {L : List (Nat × Nat)} {s t : Sg} {k i : Nat} {sp : Int32} {k' i' : Nat} {dp n : Int32} (h : Fr L s t) (g : hit L k' i') : Fr L s (g_cpy t k i sp k' i' dp n) := fun a b m =>
  ⟨(by funext c; show (if a = k' ∧ b = i' then _ else _) = _; rw [if_neg (fun e => nohit g m ⟨e.1.symm, e.2.symm⟩)]; exact congrFun (h a b m).1 c), (h a b m).2⟩
theorem fr_fillI {L : List (Nat × Nat)} {s t : Sg} {k i : Nat} {v : Int32} (h : Fr L s t) (g : hit L k i) : Fr L s (g_fillI t k i v) := fun a b m =>
  ⟨(by funext c; show (if a = k ∧ b = i then _ else _) = _; rw [if_neg (fun e => nohit g m ⟨e.1.symm, e.2.symm⟩)]; exact congrFun (h a b m).1 c), (h a b m).2⟩
theorem fr_fillL {L : List (Nat × Nat)} {s t : Sg} {k i : Nat} {v : Int64} (h : Fr L s t) (g : hit L k i) : Fr L s (g_fillL t k i v) := fun a b m =>
  ⟨(h a b m).1, (by funext c; show (if a = k ∧ b = i then _ else _) = _; rw [if_neg (fun e => nohit g m ⟨e.1.symm, e.2.symm⟩)]; exact congrFun (h a b m).2.1 c), (h a b m).2.2⟩
section FrRules
variable {β γ : Type} {π : β → Sg} {ω : γ → Sg} {L M : List (Nat × Nat)} {s t : Sg}
theorem fr_none : frG π L s none := fun _ h => nomatch h
theorem fr_gd {p : Prop} {o : Option β} (h : frG π L s o) : frG π L s (gd p o) := fun q e => by
  unfold gd at e; split at e
  · exact h q e
  · cases e
theorem fr_gif {p : Prop} {a b : Option β} (h : frG π L s a) (g : frG π L s b) : frG π L s (gif p a b) := fun q e => by
  unfold gif at e; split at e
  · exact h q e
  · exact g q e
theorem fr_bind {o : Option β} {f : β → Option γ} (h : frG π M t o) (ht : Fr L s t) (hs : Sb M L) (hf : ∀ q, Fr L s (π q) → frG ω L s (f q)) : frG ω L s (o.bind f) := fun q e => by
  cases o with
  | none => cases e
  | some a => exact hf a (ht.trans ((h a rfl).mono hs)) q e
theorem fr_tail {o : Option β} (h : frG π M t o) (ht : Fr L s t) (hs : Sb M L) : frG π L s o := fun q e => ht.trans ((h q e).mono hs)
end FrRules
theorem frv_some {L : List (Nat × Nat)} {s t : Sg} (h : Fr L s t) : frV L s (some t) := fun q e => by cases e; exact h
theorem frp_some {α : Type} {L : List (Nat × Nat)} {s t : Sg} {x : α} (h : Fr L s t) : frP L s (some (t, x)) := fun q e => by cases e; exact h
abbrev FP_x8_trimmed : List (Nat × Nat) := [(8, 0), (31, 0), (32, 0), (33, 0), (34, 0), (35, 0), (36, 0), (79, 1)]
theorem fr_x8_trimmed (s : Sg) (g0 : Nat) : frP FP_x8_trimmed s (x8_trimmed s g0) := by
  unfold x8_trimmed
  refine fr_gd (frp_some ?_)
  intro k i n
  have hk : ¬ ((31 ≤ k ∧ k ≤ 36) ∨ k = 8) := by
    rintro (⟨h1, h2⟩ | h)
    · have : k = 31 ∨ k = 32 ∨ k = 33 ∨ k = 34 ∨ k = 35 ∨ k = 36 := by omega
      rcases this with rfl | rfl | rfl | rfl | rfl | rfl <;> exact n (hit_all (by simp))
    · subst h; exact n (hit_all (by simp))
  refine ⟨?_, rfl, ?_⟩
  · funext c; simp only []; rw [if_neg (fun h => hk h.2)]
  · simp only []
    rw [u3_at, u3_at]
    · rintro ⟨rfl, -⟩; exact n (hit_all (by simp))
    · rintro ⟨rfl, rfl⟩; exact n (hit_mem (by simp))
