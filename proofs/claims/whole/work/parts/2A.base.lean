/-! FRAMES: which cells a function may write: (kind, index + 1 or 0 for every one, slot + 1 or 0 for every one) -/
abbrev FPt : Type := List (Nat × Nat × Nat)
def hit : FPt → Nat → Nat → Nat → Prop
  | [], _, _, _ => False
  | e :: t, k, i, c => (e.1 = k ∧ (e.2.1 = 0 ∨ e.2.1 = i + 1) ∧ (e.2.2 = 0 ∨ e.2.2 = c + 1)) ∨ hit t k i c
def Fr (L : FPt) (s s' : Sg) : Prop :=
  ∀ k i c, ¬ hit L k i c → s'.1 k i c = s.1 k i c ∧ s'.2.1 k i c = s.2.1 k i c ∧ s'.2.2 k i c = s.2.2 k i c
def frG {β : Type} (π : β → Sg) (L : FPt) (s : Sg) (o : Option β) : Prop := ∀ q, o = some q → Fr L s (π q)
abbrev frV (L : FPt) (s : Sg) (o : Option Sg) : Prop := frG (fun x => x) L s o
abbrev frP {α : Type} (L : FPt) (s : Sg) (o : Option (Sg × α)) : Prop := frG Prod.fst L s o
theorem fr_rfl {L : FPt} {s : Sg} : Fr L s s := fun _ _ _ _ => ⟨rfl, rfl, rfl⟩
theorem Fr.trans {L : FPt} {a b c : Sg} (h : Fr L a b) (g : Fr L b c) : Fr L a c := fun k i x n =>
  ⟨(g k i x n).1.trans (h k i x n).1, (g k i x n).2.1.trans (h k i x n).2.1, (g k i x n).2.2.trans (h k i x n).2.2⟩
theorem Fr.mono {L M : FPt} {a b : Sg} (h : Fr L a b) (g : ∀ k i c, hit L k i c → hit M k i c) : Fr M a b := fun k i c n =>
  h k i c (fun x => n (g k i c x))
theorem Fr.i {L : FPt} {s s' : Sg} (h : Fr L s s') (k i c : Nat) (n : ¬ hit L k i c) : rI s' k i c = rI s k i c := (h k i c n).1
theorem Fr.l {L : FPt} {s s' : Sg} (h : Fr L s s') (k i c : Nat) (n : ¬ hit L k i c) : rL s' k i c = rL s k i c := (h k i c n).2.1
theorem Fr.n {L : FPt} {s s' : Sg} (h : Fr L s s') (k i c : Nat) (n : ¬ hit L k i c) : rN s' k i c = rN s k i c := (h k i c n).2.2
theorem Fr.f {L : FPt} {s s' : Sg} (h : Fr L s s') (k i : Nat) (n : ∀ c, ¬ hit L k i c) : s'.1 k i = s.1 k i := funext fun c => (h k i c (n c)).1
theorem Fr.fn {L : FPt} {s s' : Sg} (h : Fr L s s') (k i : Nat) (n : ∀ c, ¬ hit L k i c) : s'.2.2 k i = s.2.2 k i := funext fun c => (h k i c (n c)).2.2
theorem hit_of {L : FPt} {e : Nat × Nat × Nat} {i c : Nat} (h : e ∈ L) (hi : e.2.1 = 0 ∨ e.2.1 = i + 1) (hc : e.2.2 = 0 ∨ e.2.2 = c + 1) : hit L e.1 i c := by
  induction L with
  | nil => cases h
  | cons a t ih =>
    rcases List.mem_cons.mp h with h | h
    · subst h; exact .inl ⟨rfl, hi, hc⟩
    · exact .inr (ih h)
theorem hit_is {L : FPt} {k i c : Nat} (h : (k, i + 1, c + 1) ∈ L) : hit L k i c := hit_of h (.inr rfl) (.inr rfl)
theorem hit_ie {L : FPt} {k i c : Nat} (h : (k, i + 1, 0) ∈ L) : hit L k i c := hit_of h (.inr rfl) (.inl rfl)
theorem hit_as {L : FPt} {k i c : Nat} (h : (k, 0, c + 1) ∈ L) : hit L k i c := hit_of h (.inl rfl) (.inr rfl)
theorem hit_ae {L : FPt} {k i c : Nat} (h : (k, 0, 0) ∈ L) : hit L k i c := hit_of h (.inl rfl) (.inl rfl)
def cov (L : FPt) (e : Nat × Nat × Nat) : Prop := ∀ i c, (e.2.1 = 0 ∨ e.2.1 = i + 1) → (e.2.2 = 0 ∨ e.2.2 = c + 1) → hit L e.1 i c
def Sb (M L : FPt) : Prop := ∀ k i c, hit M k i c → hit L k i c
theorem cov_all {L : FPt} {k x y : Nat} (h : (k, 0, y) ∈ L) : cov L (k, x, y) := fun _ _ _ g => hit_of (e := (k, 0, y)) h (.inl rfl) g
theorem cov_mem {L : FPt} {e : Nat × Nat × Nat} (h : e ∈ L) : cov L e := fun _ _ f g => hit_of h f g
theorem sb_nil {L : FPt} : Sb [] L := fun _ _ _ h => h.elim
theorem sb_cons {L M : FPt} {e : Nat × Nat × Nat} (c : cov L e) (h : Sb M L) : Sb (e :: M) L := fun k i x g => by
  rcases g with ⟨g, g', g''⟩ | g
  · subst g; exact c i x g' g''
  · exact h k i x g
theorem nohit {L : FPt} {k i c k' i' c' : Nat} (h : hit L k i c) (n : ¬ hit L k' i' c') : ¬ (k' = k ∧ i' = i ∧ c' = c) := by
  rintro ⟨rfl, rfl, rfl⟩; exact n h
theorem KK {L : FPt} {k i a b c : Nat} (g : ∀ c, hit L k i c) (m : ¬ hit L a b c) : ¬ (a = k ∧ b = i) := by
  rintro ⟨rfl, rfl⟩; exact m (g c)
theorem fr_wI {L : FPt} {s t : Sg} {k i c : Nat} {v : Int32} (h : Fr L s t) (g : hit L k i c) : Fr L s (wI t k i c v) := fun k' i' c' n =>
  ⟨(if_neg (nohit g n)).trans (h k' i' c' n).1, (h k' i' c' n).2⟩
theorem fr_wL {L : FPt} {s t : Sg} {k i c : Nat} {v : Int64} (h : Fr L s t) (g : hit L k i c) : Fr L s (wL t k i c v) := fun k' i' c' n =>
  ⟨(h k' i' c' n).1, (if_neg (nohit g n)).trans (h k' i' c' n).2.1, (h k' i' c' n).2.2⟩
theorem fr_wN {L : FPt} {s t : Sg} {k i c : Nat} {v : Nat} (h : Fr L s t) (g : hit L k i c) : Fr L s (wN t k i c v) := fun k' i' c' n =>
  ⟨(h k' i' c' n).1, (h k' i' c' n).2.1, (if_neg (nohit g n)).trans (h k' i' c' n).2.2⟩
theorem fr_cpy {L : FPt} {s t : Sg} {k i : Nat} {sp : Int32} {k' i' : Nat} {dp n : Int32} (h : Fr L s t) (g : ∀ c, hit L k' i' c) : Fr L s (g_cpy t k i sp k' i' dp n) := fun a b c m =>
  ⟨(if_neg (KK g m)).trans (h a b c m).1, (h a b c m).2⟩
theorem fr_fillI {L : FPt} {s t : Sg} {k i : Nat} {v : Int32} (h : Fr L s t) (g : ∀ c, hit L k i c) : Fr L s (g_fillI t k i v) := fun a b c m =>
  ⟨(if_neg (KK g m)).trans (h a b c m).1, (h a b c m).2⟩
theorem fr_fillL {L : FPt} {s t : Sg} {k i : Nat} {v : Int64} (h : Fr L s t) (g : ∀ c, hit L k i c) : Fr L s (g_fillL t k i v) := fun a b c m =>
  ⟨(h a b c m).1, (if_neg (KK g m)).trans (h a b c m).2.1, (h a b c m).2.2⟩
section FrRules
variable {β γ : Type} {π : β → Sg} {ω : γ → Sg} {L M : FPt} {s t : Sg}
theorem fr_none : frG π L s none := fun _ h => nomatch h
theorem fr_gd {p : Prop} {o : Option β} (h : frG π L s o) : frG π L s (gd p o) := fun q e => by
  unfold gd at e; split at e
  · exact h q e
  · cases e
theorem fr_gif {p : Prop} {a b : Option β} (h : frG π L s a) (g : frG π L s b) : frG π L s (gif p a b) := fun q e => by
  unfold gif at e; split at e
  · exact h q e
  · exact g q e
theorem fr_bind {o : Option β} {f : β → Option γ} (h : frG π M t o) (ht : Fr L s t) (hs : Sb M L) (hf : ∀ q, Fr L s (π q) → frG ω L s (f q)) : frG ω L s (o.bind f) := fun q e => by
  cases o with
  | none => cases e
  | some a => exact hf a (ht.trans ((h a rfl).mono hs)) q e
theorem fr_tail {o : Option β} (h : frG π M t o) (ht : Fr L s t) (hs : Sb M L) : frG π L s o := fun q e => ht.trans ((h q e).mono hs)
end FrRules
theorem frv_some {L : FPt} {s t : Sg} (h : Fr L s t) : frV L s (some t) := fun q e => by cases e; exact h
theorem frp_some {α : Type} {L : FPt} {s t : Sg} {x : α} (h : Fr L s t) : frP L s (some (t, x)) := fun q e => by cases e; exact h
abbrev FP_x8_trimmed : FPt := [(8, 0, 0), (31, 0, 0), (32, 0, 0), (33, 0, 0), (34, 0, 0), (35, 0, 0), (36, 0, 0), (79, 1, 0)]
theorem fr_x8_trimmed (s : Sg) (g0 : Nat) : frP FP_x8_trimmed s (x8_trimmed s g0) := by
  unfold x8_trimmed
  refine fr_gd (frp_some ?_)
  intro k i c n
  have hk : ¬ ((31 ≤ k ∧ k ≤ 36) ∨ k = 8) := by
    rintro (⟨h1, h2⟩ | h)
    · have : k = 31 ∨ k = 32 ∨ k = 33 ∨ k = 34 ∨ k = 35 ∨ k = 36 := by omega
      rcases this with rfl | rfl | rfl | rfl | rfl | rfl <;> exact n (hit_ae (by simp))
    · subst h; exact n (hit_ae (by simp))
  refine ⟨?_, rfl, ?_⟩
  · simp only []; rw [if_neg (fun h => hk h.2)]
  · simp only [u3]
    rw [if_neg, if_neg]
    · rintro ⟨rfl, -⟩; exact n (hit_ae (by simp))
    · rintro ⟨rfl, rfl, rfl⟩; exact n (hit_ie (by simp))
