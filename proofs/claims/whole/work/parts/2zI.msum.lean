/-! the model's sums -/
variable {σ pl : Nat → Nat} {T : Nat} {o : Bool}
theorem BM_w {s : Sg} {e : Nat} (h : BM pl s e) {k c : Nat} {v : Int32} (hk : ¬ (k = 10 ∧ (c = 21 ∨ c = 19))) : BM pl (wI s k 0 c v) e := by
  obtain ⟨h1, t, h2, h3⟩ := h
  exact ⟨by rw [rI_ne (by omega)]; exact h1, t, h2, by rw [rI_ne (by omega)]; exact h3⟩
theorem m_sgn (s : Sg) (x : Int32) : m_sign s x = some (s, 100 + x) := rfl
theorem MS_l {s : Sg} {p q n : Nat} (h : MS s σ pl T o p q n) {q' : Nat} : MS (wI s 10 0 20 (nI q')) σ pl T o p q' n := by
  obtain ⟨h1, h2, h3, h4, h5, h6, h7, h8⟩ := h
  refine ⟨fun k hk => ?_, ?_, ?_, ?_, ?_, ?_, ?_, ?_⟩
  · rw [rI_ne (by omega), rI_ne (by omega), rI_ne (by omega)]; exact h1 k hk
  · rw [rI_ne (by omega)]; exact h2
  · rw [rI_ne (by omega)]; exact h3
  · rw [rI_ne (by omega)]; exact h4
  · rw [rI_ne (by omega)]; exact h5
  · rw [rI_eq rfl]
  · rw [rI_ne (by omega)]; exact h7
  · rw [rI_ne (by omega)]; exact h8
theorem m_leaf_y {s : Sg} {p q n : Nat} (h : MS s σ pl T o p q n) (hq : q < 50) : m_leaf s = some (madv (wI s 10 0 20 (nI (q + 1)))) := by
  unfold m_leaf m_leaf_G m_leaf_b13 m_leaf_b13_G
  rw [h.2.2.2.2.2.1, gif_f (by rw [ti_eq, nI_ti (by omega), li_50]; omega), nI_s (by omega)]
  simp only []
  rw [m_fine_y (by rw [rI_ne (by omega)]; exact h.2.2.2.2.2.2.2)]
  simp only [Option.bind_some]
  rw [gif_f (by decide)]
  rfl
theorem m_leaf_n (K : TK σ pl T) {s : Sg} {p q n : Nat} (h : MS s σ pl T o p q n) (hp : p ≤ T) (hq : q = 50) : ∃ s', m_leaf s = some s' ∧ BM pl s' p := by
  unfold m_leaf m_leaf_G m_leaf_b13 m_leaf_b13_G
  rw [gif_t (by rw [h.2.2.2.2.2.1, hq]; rfl), m_faults_y K h hp]
  simp only [Option.bind_some]
  have b := BM_w (bm_fault K h hp) (k := 10) (c := 20) (v := rI (wI s 10 0 21 (nI (pl p))) 10 0 20 + 1) (by omega)
  rw [m_fine_b K b]
  simp only [Option.bind_some]
  rw [gif_t trivial]
  exact ⟨_, rfl, b⟩
theorem m_lf (K : TK σ pl T) {rs : Sg → Int32 → Option Sg} {D : Int32} {s : Sg} {p q n : Nat} (h : MS s σ pl T o p q n) (hp : p ≤ T) (hq : q ≤ 50) (hn : n ≤ p + 30) (c : σ p ≠ 2091) : ok (m_readPart rs s D) (RM σ pl T o s n (leaf σ o p q)) := by
  have T4 := K.1
  have mle := mc_le (σ p)
  have hcode := m_code h hp
  have f := m_fine_y h.2.2.2.2.2.2.2
  have lo8 : lo o ≤ 15 ∧ 8 ≤ lo o := by cases o <;> decide
  have hi21 : hi o ≤ 21 ∧ 15 ≤ hi o := by cases o <;> decide
  -- a part that is told
  have told : (σ p ≤ 1000 ∨ (lo o ≤ mc (σ p) ∧ mc (σ p) ≤ hi o)) → ok (m_readPart_b111 rs s (nI (mc (σ p)))) (RM σ pl T o s n (leaf σ o p q)) := by
    intro hc
    unfold m_readPart_b111 m_readPart_b111_G
    rw [h.2.2.2.2.1, gd_t (inb_nI (by omega) (by omega)), ix_nI (by omega), m_tell_y h (by omega)]
    simp only [Option.bind_some]
    have h1 := MS_op (c := nI (mc (σ p))) (w := rI s 51 0 p) h
    unfold leaf
    by_cases c0 : 50 ≤ q
    · rw [if_pos c0]
      obtain ⟨s', e1, e2⟩ := m_leaf_n K h1 hp (by omega)
      rw [e1]
      simp only [Option.bind_some]
      rw [m_num_b K e2]
      simp only [Option.bind_some]
      exact ok_gif (fun _ => ok_some e2) (fun _ => ok_gif (fun _ => ok_some e2) (fun _ => ok_gif (fun _ => ok_some e2) (fun _ => ok_some e2)))
    · rw [if_neg c0, m_leaf_y h1 (by omega)]
      simp only [Option.bind_some]
      have h2 := MS_l (q' := q + 1) h1
      have h3 := MS_adv h2 (by omega)
      have eo : rI (madv (wI (mop s n (nI (mc (σ p))) (rI s 51 0 p)) 10 0 20 (nI (q + 1)))) 10 0 10 = oI o := h3.2.1
      rw [eo]
      -- the reading
      have enc : ∀ (a b : Nat), (o = false → (mc (σ p) : Int) = encm (a, b) ∧ (a = 1 → (rI s 51 0 p).toInt = b) ∧ a ≠ 4 ∧ a ≠ 5) → MR σ pl T o s (madv (wI (mop s n (nI (mc (σ p))) (rI s 51 0 p)) 10 0 20 (nI (q + 1)))) n [(a, b)] (p + 1) (q + 1) := by
        intro a b hE
        have r1 : MR σ pl T o s (mop s n (nI (mc (σ p))) (rI s 51 0 p)) n [(a, b)] p q := MR_op (MR_0 h) (fun ho => ⟨by rw [nI_ti (by omega)]; exact (hE ho).1, (hE ho).2⟩)
        have r2 : MR σ pl T o s (wI (mop s n (nI (mc (σ p))) (rI s 51 0 p)) 10 0 20 (nI (q + 1))) n [(a, b)] p (q + 1) := by
          refine ⟨MS_l r1.1, fun ho => EncM_k (fun i _ _ => ?_) (r1.2.1 ho), fun c hc => ?_⟩
          · exact ⟨show rI (wI _ 10 0 20 _) 53 0 i = rI _ 53 0 i from rI_ne (by omega), show rI (wI _ 10 0 20 _) 54 0 i = rI _ 54 0 i from rI_ne (by omega)⟩
          · rw [rI_ne (by omega), rI_ne (by omega)]; exact r1.2.2 c hc
        exact MR_adv r2 (by omega)
      by_cases c1 : σ p ≤ 1000
      · rw [if_pos c1]
        have e50 : mc (σ p) = 50 := mc_n.mpr (by omega)
        have r := enc 1 (σ p) (fun _ => ⟨by rw [e50]; rfl, fun _ => by rw [(h.1 p hp).2.1 c1, nI_ti (by omega)], by omega, by omega⟩)
        refine ok_gif (fun _ => ok_some r) (fun _ => ?_)
        rw [gif_f (fun x => by have : mc (σ p) = 20 := (mq (by omega) li_20).mp x; omega), gif_f (fun x => by have : mc (σ p) = 21 := (mq (by omega) li_21).mp x; omega)]
        exact ok_some r
      · rw [if_neg c1]
        have hc' := hc.resolve_left c1
        have hx := (mc_r (x := σ p) (a := lo o) (b := hi o) (by omega)).mp hc'
        cases o with
        | false =>
          have lo0 : lo false = 8 := rfl
          have hi0 : hi false = 15 := rfl
          rw [lo0, hi0] at hx
          rw [if_pos rfl, if_pos (by omega), gif_t (show oI false = 0 from rfl)]
          refine ok_some (enc 2 (σ p - 3013) (fun _ => ⟨?_, fun x => by omega, by omega, by omega⟩))
          have : mc (σ p) = σ p - 3005 := (mc_w (by omega)).mpr (by omega)
          rw [this]
          show ((σ p - 3005 : Nat) : Int) = 8 + ((σ p - 3013 : Nat) : Int)
          omega
        | true =>
          have lo1 : lo true = 15 := rfl
          have hi1 : hi true = 21 := rfl
          rw [lo1, hi1] at hx
          rw [if_neg (by decide), gif_f (by decide)]
          by_cases c2 : σ p = 3025 ∨ σ p = 3026
          · rw [if_pos c2]
            have hp1 := pT K.2.1 hp (by omega)
            have nb : ∀ b, MR σ pl T true s (madv (wI (mop s n (nI (mc (σ p))) (rI s 51 0 p)) 10 0 20 (nI (q + 1)))) n [(2, b)] (p + 1) (q + 1) := fun b => enc 2 b (fun ho => absurd ho (by decide))
            have fin : ok ((m_mustNumber (madv (wI (mop s n (nI (mc (σ p))) (rI s 51 0 p)) 10 0 20 (nI (q + 1)))) 0 11).bind fun s3 => some s3) (RM σ pl T true s n (if σ (p + 1) ≤ 11 then .inl ([(2, (if σ p = 3025 then 5 else 17) + σ (p + 1))], p + 2, q + 1) else .inr (p + 1))) := by
              by_cases c3 : σ (p + 1) ≤ 11
              · rw [if_pos c3, m_num_y K h3 hp1 (a := 0) (b := 11) rfl li_11 (by omega) (by omega)]
                exact ok_some (MR_adv (nb _) (by omega))
              · rw [if_neg c3, m_num_n K h3 hp1 (a := 0) (b := 11) rfl li_11 (by omega) (by omega)]
                exact ok_some (bm_fault K h3 hp1)
            rcases c2 with c2 | c2
            · have : mc (σ p) = 20 := (mc_w (by omega)).mpr (by omega)
              rw [gif_t ((mq (by omega) li_20).mpr this)]; exact fin
            · have : mc (σ p) = 21 := (mc_w (by omega)).mpr (by omega)
              rw [gif_f (fun x => by have : mc (σ p) = 20 := (mq (by omega) li_20).mp x; omega), gif_t ((mq (by omega) li_21).mpr this)]; exact fin
          · rw [if_neg c2, if_pos (by omega), gif_f (fun x => by have := (mc_w (x := σ p) (c := 20) (by omega)).mp ((mq (by omega) li_20).mp x); omega), gif_f (fun x => by have := (mc_w (x := σ p) (c := 21) (by omega)).mp ((mq (by omega) li_21).mp x); omega)]
            exact ok_some (enc 2 (σ p - 3020) (fun ho => absurd ho (by decide)))
  -- none that is known
  have bad : ¬ (σ p ≤ 1000 ∨ (lo o ≤ mc (σ p) ∧ mc (σ p) ≤ hi o)) → leaf σ o p q = .inr p := by
    intro hc
    have h1 : ¬ σ p ≤ 1000 := fun x => hc (.inl x)
    have h2 : ¬ (lo o + 3005 ≤ σ p ∧ σ p ≤ hi o + 3005) := fun x => hc (.inr ((mc_r (by omega)).mpr x))
    unfold leaf
    by_cases c0 : 50 ≤ q
    · rw [if_pos c0]
    · rw [if_neg c0, if_neg h1]
      cases o with
      | false =>
        have lo0 : lo false = 8 := rfl
        have hi0 : hi false = 15 := rfl
        rw [lo0, hi0] at h2
        rw [if_pos rfl, if_neg (by omega)]
      | true =>
        have lo0 : lo true = 15 := rfl
        have hi0 : hi true = 21 := rfl
        rw [lo0, hi0] at h2
        rw [if_neg (by decide), if_neg (by omega), if_neg (by omega)]
  have failed : ¬ (σ p ≤ 1000 ∨ (lo o ≤ mc (σ p) ∧ mc (σ p) ≤ hi o)) → ok ((m_faults s).bind fun s4 => some s4) (RM σ pl T o s n (leaf σ o p q)) := by
    intro hc
    rw [bad hc, m_faults_y K h hp]
    exact ok_some (bm_fault K h hp)
  unfold m_readPart m_readPart_G
  rw [f]
  simp only [Option.bind_some, m_sgn]
  rw [gif_f (by decide), h.2.2.2.2.1, gd_t (inb_nI (by omega) (by omega)), ix_nI (by omega), hcode, gif_f (fun x => by
    have k191 : (100 + 91 : Int32).toInt = ((191 : Nat) : Int) := by decide
    have := (mq (by omega) k191).mp x
    rw [mc_b (by omega)] at this
    omega), h.2.2.1, h.2.2.2.1]
  by_cases c50 : mc (σ p) = 50
  · have le := mc_n.mp c50
    rw [gif_t ((mq (by omega) li_50).mpr c50), gd_t (inb_nI (by omega) (by omega))]
    by_cases c1 : σ p ≤ 1000
    · rw [(h.1 p hp).2.1 c1, gif_f (by rw [ti_lt, nI_ti (by omega), li_1000]; omega)]
      exact told (.inl c1)
    · have := (h.1 p hp).2.2.1 (by omega)
      rw [gif_t (by rw [ti_lt, li_1000]; omega), gif_f (by rw [ti_lt, nI_ti (by omega), nI_ti (by omega)]; omega), gif_t (by rw [ti_lt, nI_ti (by omega), nI_ti (by omega)]; omega)]
      exact failed (by omega)
  · have nle : ¬ σ p ≤ 1000 := fun x => c50 (mc_n.mpr (by omega))
    rw [gif_f (fun x => c50 ((mq (by omega) li_50).mp x))]
    refine ok_gif (fun d => ?_) (fun d => ok_gif (fun d2 => ?_) (fun d2 => ?_))
    · rw [ti_lt, nI_ti (by omega), nI_ti (by omega)] at d; exact failed (by omega)
    · rw [ti_lt, nI_ti (by omega), nI_ti (by omega)] at d2; exact failed (by omega)
    · rw [ti_lt, nI_ti (by omega), nI_ti (by omega)] at d d2; exact told (.inr (by omega))
theorem m_part_b (K : TK σ pl T) {rs : Sg → Int32 → Option Sg} {D : Int32} {s : Sg} {e : Nat} (h : BM pl s e) : m_readPart rs s D = some s := by
  unfold m_readPart m_readPart_G
  rw [m_fine_b K h]
  simp only [Option.bind_some]
  rw [gif_t trivial]
theorem m_part (K : TK σ pl T) {rs : Sg → Int32 → Option Sg} {dep k : Nat} (hdk : dep + k = 8) (hs : ∀ j, k = j + 1 → SM σ pl T o (fun s => rs s (nI (dep + 1))) (pSum σ o j)) : SM σ pl T o (fun s => m_readPart rs s (nI dep)) (pPart σ o k) := by
  refine ⟨fun s p q n h hp hq hn => ?_, fun s e h => m_part_b K h⟩
  have T4 := K.1
  have mle := mc_le (σ p)
  show ok (m_readPart rs s (nI dep)) _
  by_cases c : σ p = 2091
  · have hcode := m_code h hp
    have f := m_fine_y h.2.2.2.2.2.2.2
    have k191 : (100 + 91 : Int32).toInt = ((191 : Nat) : Int) := by decide
    unfold m_readPart m_readPart_G
    rw [f]
    simp only [Option.bind_some, m_sgn]
    rw [gif_f (by decide), h.2.2.2.2.1, gd_t (inb_nI (by omega) (by omega)), ix_nI (by omega), hcode, gif_t ((mq (by omega) k191).mpr ((mc_b (by omega)).mpr (by omega)))]
    cases k with
    | zero =>
      have e1 : pPart σ o 0 p q = .inr p := if_pos c
      rw [e1, gif_t (by rw [ti_eq, nI_ti (by omega), li_8]; omega), m_faults_y K h hp]
      simp only [Option.bind_some]
      unfold m_readPart_b37 m_readPart_b37_G
      rw [m_fine_b K (bm_fault K h hp)]
      simp only [Option.bind_some]
      rw [gif_t trivial]
      exact ok_some (bm_fault K h hp)
    | succ k =>
      have hp1 := pT K.2.1 hp (by omega)
      have e1 : pPart σ o (k + 1) p q = pb (pSum σ o k (p + 1) q) (fun P p' q' => if σ p' = 2093 then .inl (P, p' + 1, q') else .inr p') := if_pos c
      rw [e1, gif_f (by rw [ti_eq, nI_ti (by omega), li_8]; omega)]
      unfold m_readPart_b37 m_readPart_b37_G
      rw [f]
      simp only [Option.bind_some, m_sgn]
      rw [gif_f (by decide), nI_s (by omega)]
      have r1 := MR_adv (MR_0 h) (by omega)
      have h1 := r1.1
      simp only [List.length_nil, Nat.add_zero] at h1
      show ok ((rs (madv s) (nI (dep + 1))).bind fun s3 => (m_must s3 (100 + 93)).bind fun s5 => some s5) _
      refine ok_bind (ok_mono ((hs k rfl).1 (madv s) (p + 1) q n h1 hp1 hq (by omega)) (fun s3 hs3 => ?_))
      have gs := pSum_g (o := o) K.2.1 k hp1 hq
      have k193 : (100 + 93 : Int32).toInt = ((193 : Nat) : Int) := by decide
      cases hr : pSum σ o k (p + 1) q with
      | inr e => rw [hr] at hs3; rw [pb_r, m_must_b K hs3]; exact ok_some hs3
      | inl y =>
        obtain ⟨P, p', q'⟩ := y
        rw [hr] at hs3 gs
        have g3 := (GR_l.mp gs).2.2.1
        have ra : MR σ pl T o s s3 n P p' q' := MR_app r1 (by simpa using RM_l.mp hs3)
        rw [pb_l]
        by_cases c2 : σ p' = 2093
        · rw [if_pos c2, m_must_y K ra.1 g3 k193 ((mc_b (by omega)).mpr (by omega))]
          exact ok_some (MR_adv ra (by omega))
        · rw [if_neg c2, m_must_n K ra.1 g3 k193 (fun x => c2 (by have := (mc_b (by omega)).mp x; omega))]
          exact ok_some (bm_fault K ra.1 g3)
  · rw [pPart_leaf c]; exact m_lf K h hp hq hn c
/-! loops -/
def LM (σ pl : Nat → Nat) (T : Nat) (o : Bool) (W : List Ins → Prop) (s0 : Sg) (p0 q0 n : Nat) (R0 : PR) (L : Nat → List Ins → Nat → Nat → PR) (s : Sg) : Prop :=
  (∃ e, R0 = .inr e ∧ BM pl s e) ∨ ∃ m P p q, R0 = L m P p q ∧ MR σ pl T o s0 s n P p q ∧ GR W T p0 q0 (.inl (P, p, q)) ∧ 402 ≤ m + p
def mes (s : Sg) : Nat := if rI s 10 0 21 = -1 then 402 - (rI s 10 0 19).toInt.toNat else 0
theorem mes_g {s : Sg} {p q n : Nat} (h : MS s σ pl T o p q n) (hp : p ≤ 400) : mes s = 402 - p := by
  unfold mes
  rw [if_pos h.2.2.2.2.2.2.2, h.2.2.2.2.1, nI_ti (by omega)]; omega
theorem mes_le (s : Sg) : mes s ≤ 402 := by
  unfold mes
  by_cases c : rI s 10 0 21 = -1
  · rw [if_pos c]; exact Nat.sub_le _ _
  · rw [if_neg c]; omega
theorem mes_b (K : TK σ pl T) {s : Sg} {e : Nat} (h : BM pl s e) : mes s = 0 := by
  unfold mes
  rw [if_neg (by rw [h.1]; exact ne_m1 K e)]
theorem enc_op {x w : Nat} (h : w ≠ 0) (hw : opS x = w ∨ opT x = w ∨ opC x = w) : (mc x : Int) = encm (w, 0) ∧ 7 ≤ w ∧ w ≤ 14 ∧ x ≠ 4000 := by
  unfold opS opT opC at hw
  have : (x = 2043 ∧ w = 7) ∨ (x = 2045 ∧ w = 8) ∨ (x = 2042 ∧ w = 9) ∨ (x = 2047 ∧ w = 10) ∨ (x = 2037 ∧ w = 11) ∨ (x = 2060 ∧ w = 12) ∨ (x = 2062 ∧ w = 13) ∨ (x = 2061 ∧ w = 14) := by
    by_cases e1 : x = 2043
    · subst e1; simp at hw; omega
    by_cases e2 : x = 2045
    · subst e2; simp at hw; omega
    by_cases e3 : x = 2042
    · subst e3; simp at hw; omega
    by_cases e4 : x = 2047
    · subst e4; simp at hw; omega
    by_cases e5 : x = 2037
    · subst e5; simp at hw; omega
    by_cases e6 : x = 2060
    · subst e6; simp at hw; omega
    by_cases e7 : x = 2062
    · subst e7; simp at hw; omega
    by_cases e8 : x = 2061
    · subst e8; simp at hw; omega
    rw [if_neg e1, if_neg e2, if_neg e3, if_neg e4, if_neg e5, if_neg e6, if_neg e7, if_neg e8] at hw
    omega
  rcases this with ⟨rfl, rfl⟩ | ⟨rfl, rfl⟩ | ⟨rfl, rfl⟩ | ⟨rfl, rfl⟩ | ⟨rfl, rfl⟩ | ⟨rfl, rfl⟩ | ⟨rfl, rfl⟩ | ⟨rfl, rfl⟩ <;> decide
theorem m_next {s0 s : Sg} {p0 q0 n : Nat} {R0 : PR} {op : Nat → Nat} {sub : Nat → Nat → PR} {f : Sg → Option Sg} (K : TK σ pl T) (hf : SM σ pl T o f sub) (hg : ∀ p q, p ≤ T → q ≤ 50 → GR (wfS (nfo o)) T p q (sub p q)) (hn0 : n ≤ p0 + 30)
    {m : Nat} {P : List Ins} {p q : Nat} (hR : R0 = lp σ op sub m P p q) (hS : MR σ pl T o s0 s n P p q) (hG : GR (wfS (nfo o)) T p0 q0 (.inl (P, p, q))) (hm : 402 ≤ m + p) {w : Nat} (hw : op (σ p) = w) (w0 : w ≠ 0) (ho : opOK op) (hE : (mc (σ p) : Int) = encm (w, 0)) :
    ok ((f (madv s)).bind fun s1 => (m_tellsOp s1 (nI (mc (σ p))) 0).bind fun q2 => some q2.1) (fun s' => LM σ pl T o (wfS (nfo o)) s0 p0 q0 n R0 (lp σ op sub) s' ∧ mes s' < mes s) := by
  have T4 := K.1
  have mle := mc_le (σ p)
  obtain ⟨g1, g2, g3, g4, g5, g6⟩ := GR_l.mp hG
  have oo := (ho (σ p)).resolve_left (by omega)
  have hp1 := pT K.2.1 g3 oo.2.2
  have hS1 := MR_adv hS (by omega)
  have ms := mes_g hS.1 (by omega)
  obtain ⟨m', rfl⟩ : ∃ m', m = m' + 1 := ⟨m - 1, by omega⟩
  rw [lp_s, if_neg (by omega)] at hR
  have gs := hg (p + 1) q hp1 g5
  refine ok_bind (ok_mono (hf.1 (madv s) (p + 1) q (n + P.length) hS1.1 hp1 g5 (by omega)) (fun s1 hx => ?_))
  cases hr : sub (p + 1) q with
  | inr e =>
    rw [hr] at hx hR
    rw [m_tell_b K hx]
    exact ok_some ⟨.inl ⟨e, hR, hx⟩, by rw [mes_b K hx, ms]; omega⟩
  | inl y =>
    obtain ⟨Q, p', q'⟩ := y
    rw [hr] at hx hR gs
    obtain ⟨k1, k2, k3, k4, k5, k6⟩ := GR_l.mp gs
    have ra := MR_app hS1 (RM_l.mp hx)
    have hlen : n + (P ++ Q).length < 800 := by rw [List.length_append]; omega
    rw [m_tell_y ra.1 hlen]
    have rb : MR σ pl T o s0 (mop s1 (n + (P ++ Q).length) (nI (mc (σ p))) 0) n (P ++ Q ++ [(w, 0)]) p' q' := MR_op ra (fun _ => ⟨by rw [nI_ti (by omega)]; exact hE, fun x => by omega, by omega, by omega⟩)
    have hw' : P ++ Q ++ [(op (σ p), 0)] = P ++ Q ++ [(w, 0)] := by rw [hw]
    refine ok_some ⟨.inr ⟨m', P ++ Q ++ [(w, 0)], p', q', by rw [hR, pb_l, hw'], rb, GR_l.mpr ⟨wfS_op g1 k1 (by omega), ?_, k3, ?_, k5, ?_⟩, by omega⟩, by rw [mes_g rb.1 (by omega), ms]; omega⟩
    · simp only [List.length_append, List.length_cons, List.length_nil]; omega
    · rw [pushes_app, pushes_app]; have : pushes [((w, 0) : Ins)] = 0 := by
        show (if w = 1 ∨ w = 2 then 1 else 0) + 0 = 0
        rw [if_neg (by omega)]
      omega
    · simp only [List.length_append]; omega
theorem m_prev (K : TK σ pl T) {s : Sg} {p q n : Nat} (h : MS s σ pl T o p q n) (hp : p ≤ T) : inb (rI (madv s) 10 0 19 - 1) 401 ∧ rI (madv s) 50 0 (ix (rI (madv s) 10 0 19 - 1)) = nI (mc (σ p)) := by
  have := K.1
  have h1 := MS_adv h (by omega)
  have e : rI (madv s) 10 0 19 - 1 = nI p := by
    rw [h1.2.2.2.2.1, ti_eq, ti_sub (by rw [nI_ti (by omega), li_1]; omega) (by rw [nI_ti (by omega), li_1]; omega), nI_ti (by omega), nI_ti (by omega), li_1]; omega
  rw [e, ix_nI (by omega)]
  exact ⟨inb_nI (by omega) (by omega), (h1.1 p hp).1⟩
theorem m_term (K : TK σ pl T) {rs : Sg → Int32 → Option Sg} {D : Int32} {part : Nat → Nat → PR} (hf : SM σ pl T o (fun s => m_readPart rs s D) part) (hg : ∀ p q, p ≤ T → q ≤ 50 → GR (wfS (nfo o)) T p q (part p q)) : SM σ pl T o (fun s => m_readTerm rs s D) (pTerm σ part) := by
  have k142 : (100 + 42 : Int32).toInt = ((142 : Nat) : Int) := by decide
  have k147 : (100 + 47 : Int32).toInt = ((147 : Nat) : Int) := by decide
  have k137 : (100 + 37 : Int32).toInt = ((137 : Nat) : Int) := by decide
  have fb : ∀ s e, BM pl s e → ∀ n, m_readTerm_b5 rs (n + 1) s D = some s := by
    intro s e h n
    show m_readTerm_b5_G _ _ _ s D = _
    unfold m_readTerm_b5_G
    simp only [m_sgn, Option.bind_some, m_take_b K h]
    rw [gif_t trivial, gif_t trivial, gif_t trivial]
  refine ⟨fun s p q n h hp hq hn => ?_, fun s e h => ?_⟩
  · have T4 := K.1
    show ok (m_readTerm rs s D) (RM σ pl T o s n (pTerm σ part p q))
    unfold m_readTerm m_readTerm_G pTerm
    refine ok_bind (ok_mono (hf.1 s p q n h hp hq hn) (fun x hx => ?_))
    have gs := hg p q hp hq
    have st : LM σ pl T o (wfS (nfo o)) s p q n (pb (part p q) (fun P p' q' => lp σ opT part 402 P p' q')) (lp σ opT part) x := by
      cases hr : part p q with
      | inr e => rw [hr] at hx; exact .inl ⟨e, rfl, hx⟩
      | inl y =>
        obtain ⟨P, p', q'⟩ := y
        rw [hr] at hx gs
        exact .inr ⟨402, P, p', q', rfl, hx, gs, by omega⟩
    generalize pb (part p q) (fun P p' q' => lp σ opT part 402 P p' q') = R0 at st ⊢
    refine ok_loop (K := fun n (y : Sg) => m_readTerm_b5 rs n y D) (I := LM σ pl T o (wfS (nfo o)) s p q n R0 (lp σ opT part)) (μ := mes) ?_ FU x st (by have := mes_le x; show _ < 20000; omega)
    rintro fu s2 hI ih
    rcases hI with ⟨e, hR, hB⟩ | ⟨m, P, p', q', hR, hS, hG, hm⟩
    · rw [fb s2 e hB fu, hR]; exact ok_some hB
    · have p'T := (GR_l.mp hG).2.2.1
      show ok (m_readTerm_b5_G _ _ _ s2 D) _
      unfold m_readTerm_b5_G
      simp only [m_sgn, Option.bind_some]
      have k41 : opT (σ p') ≠ 0 → ok (m_readTerm_b41 rs (m_readTerm_b5 rs fu) (madv s2) D) (RM σ pl T o s n R0) := by
        intro w0
        obtain ⟨b1, b2⟩ := m_prev K hS.1 p'T
        unfold m_readTerm_b41 m_readTerm_b41_G
        rw [gd_t b1, b2]
        obtain ⟨s4, h4, hL, hm4⟩ := m_next K hf hg hn hR hS hG hm rfl w0 opT_ok (enc_op w0 (.inr (.inl rfl))).1
        obtain ⟨s5, hs5, h5⟩ := Option.bind_eq_some_iff.mp h4
        obtain ⟨q6, hq6, h6⟩ := Option.bind_eq_some_iff.mp h5
        simp only [Option.some.injEq] at h6
        rw [hs5]
        simp only [Option.bind_some]
        rw [hq6]
        simp only [Option.bind_some]
        rw [h6]
        exact ih s4 hL hm4
      by_cases c1 : σ p' = 2042
      · rw [m_take_y K hS.1 p'T k142 ((mc_b (by omega)).mpr (by omega))]
        simp only [Option.bind_some]
        rw [gif_f (by decide)]
        exact k41 (by rw [c1]; decide)
      · rw [m_take_n K hS.1 p'T k142 (fun x => c1 (by have := (mc_b (by omega)).mp x; omega))]
        simp only [Option.bind_some]
        rw [gif_t trivial]
        by_cases c2 : σ p' = 2047
        · rw [m_take_y K hS.1 p'T k147 ((mc_b (by omega)).mpr (by omega))]
          simp only [Option.bind_some]
          rw [gif_f (by decide)]
          exact k41 (by rw [c2]; decide)
        · rw [m_take_n K hS.1 p'T k147 (fun x => c2 (by have := (mc_b (by omega)).mp x; omega))]
          simp only [Option.bind_some]
          rw [gif_t trivial]
          by_cases c3 : σ p' = 2037
          · rw [m_take_y K hS.1 p'T k137 ((mc_b (by omega)).mpr (by omega))]
            simp only [Option.bind_some]
            rw [gif_f (by decide)]
            exact k41 (by rw [c3]; decide)
          · rw [m_take_n K hS.1 p'T k137 (fun x => c3 (by have := (mc_b (by omega)).mp x; omega))]
            simp only [Option.bind_some]
            rw [gif_t trivial]
            obtain ⟨m', rfl⟩ : ∃ m', m = m' + 1 := ⟨m - 1, by omega⟩
            have : opT (σ p') = 0 := by unfold opT; rw [if_neg c1, if_neg c2, if_neg c3]
            rw [lp_s, if_pos this] at hR
            rw [hR]; exact ok_some hS
  · show m_readTerm rs s D = some s
    unfold m_readTerm m_readTerm_G
    have : m_readPart rs s D = some s := hf.2 s e h
    rw [this]
    rw [show FU = 19999 + 1 from rfl]; exact fb s e h 19999
theorem m_sumW (K : TK σ pl T) {rs : Sg → Int32 → Option Sg} {D : Int32} {term : Nat → Nat → PR} (hf : SM σ pl T o (fun s => m_readTerm rs s D) term) (hg : ∀ p q, p ≤ T → q ≤ 50 → GR (wfS (nfo o)) T p q (term p q)) : SM σ pl T o (fun s => m_readSum_G (m_readSum_b5 rs FU) (m_readTerm rs) s D) (fun p q => pb (term p q) (fun P p' q' => lp σ opS term 402 P p' q')) := by
  have k143 : (100 + 43 : Int32).toInt = ((143 : Nat) : Int) := by decide
  have k145 : (100 + 45 : Int32).toInt = ((145 : Nat) : Int) := by decide
  have fb : ∀ s e, BM pl s e → ∀ n, m_readSum_b5 rs (n + 1) s D = some s := by
    intro s e h n
    show m_readSum_b5_G _ _ _ s D = _
    unfold m_readSum_b5_G
    simp only [m_sgn, Option.bind_some, m_take_b K h]
    rw [gif_t trivial, gif_t trivial]
  refine ⟨fun s p q n h hp hq hn => ?_, fun s e h => ?_⟩
  · have T4 := K.1
    show ok (m_readSum_G _ _ s D) (RM σ pl T o s n (pb (term p q) (fun P p' q' => lp σ opS term 402 P p' q')))
    unfold m_readSum_G
    refine ok_bind (ok_mono (hf.1 s p q n h hp hq hn) (fun x hx => ?_))
    have gs := hg p q hp hq
    have st : LM σ pl T o (wfS (nfo o)) s p q n (pb (term p q) (fun P p' q' => lp σ opS term 402 P p' q')) (lp σ opS term) x := by
      cases hr : term p q with
      | inr e => rw [hr] at hx; exact .inl ⟨e, rfl, hx⟩
      | inl y =>
        obtain ⟨P, p', q'⟩ := y
        rw [hr] at hx gs
        exact .inr ⟨402, P, p', q', rfl, hx, gs, by omega⟩
    generalize pb (term p q) (fun P p' q' => lp σ opS term 402 P p' q') = R0 at st ⊢
    refine ok_loop (K := fun n (y : Sg) => m_readSum_b5 rs n y D) (I := LM σ pl T o (wfS (nfo o)) s p q n R0 (lp σ opS term)) (μ := mes) ?_ FU x st (by have := mes_le x; show _ < 20000; omega)
    rintro fu s2 hI ih
    rcases hI with ⟨e, hR, hB⟩ | ⟨m, P, p', q', hR, hS, hG, hm⟩
    · rw [fb s2 e hB fu, hR]; exact ok_some hB
    · have p'T := (GR_l.mp hG).2.2.1
      show ok (m_readSum_b5_G _ _ _ s2 D) _
      unfold m_readSum_b5_G
      simp only [m_sgn, Option.bind_some]
      have k29 : opS (σ p') ≠ 0 → ok (m_readSum_b29 rs (m_readSum_b5 rs fu) (madv s2) D) (RM σ pl T o s n R0) := by
        intro w0
        obtain ⟨b1, b2⟩ := m_prev K hS.1 p'T
        unfold m_readSum_b29 m_readSum_b29_G
        rw [gd_t b1, b2]
        obtain ⟨s4, h4, hL, hm4⟩ := m_next K hf hg hn hR hS hG hm rfl w0 opS_ok (enc_op w0 (.inl rfl)).1
        obtain ⟨s5, hs5, h5⟩ := Option.bind_eq_some_iff.mp h4
        obtain ⟨q6, hq6, h6⟩ := Option.bind_eq_some_iff.mp h5
        simp only [Option.some.injEq] at h6
        rw [hs5]
        simp only [Option.bind_some]
        rw [hq6]
        simp only [Option.bind_some]
        rw [h6]
        exact ih s4 hL hm4
      by_cases c1 : σ p' = 2043
      · rw [m_take_y K hS.1 p'T k143 ((mc_b (by omega)).mpr (by omega))]
        simp only [Option.bind_some]
        rw [gif_f (by decide)]
        exact k29 (by rw [c1]; decide)
      · rw [m_take_n K hS.1 p'T k143 (fun x => c1 (by have := (mc_b (by omega)).mp x; omega))]
        simp only [Option.bind_some]
        rw [gif_t trivial]
        by_cases c2 : σ p' = 2045
        · rw [m_take_y K hS.1 p'T k145 ((mc_b (by omega)).mpr (by omega))]
          simp only [Option.bind_some]
          rw [gif_f (by decide)]
          exact k29 (by rw [c2]; decide)
        · rw [m_take_n K hS.1 p'T k145 (fun x => c2 (by have := (mc_b (by omega)).mp x; omega))]
          simp only [Option.bind_some]
          rw [gif_t trivial]
          obtain ⟨m', rfl⟩ : ∃ m', m = m' + 1 := ⟨m - 1, by omega⟩
          have : opS (σ p') = 0 := by unfold opS; rw [if_neg c1, if_neg c2]
          rw [lp_s, if_pos this] at hR
          rw [hR]; exact ok_some hS
  · show m_readSum_G _ _ s D = some s
    unfold m_readSum_G
    have : m_readTerm rs s D = some s := hf.2 s e h
    rw [this]
    rw [show FU = 19999 + 1 from rfl]; exact fb s e h 19999
theorem m_sum (K : TK σ pl T) : ∀ (d dep k : Nat), dep + k = 8 → k + 1 ≤ d → SM σ pl T o (fun s => m_readSum d s (nI dep)) (pSum σ o k) := by
  intro d
  induction d with
  | zero => intro dep k _ h; omega
  | succ d ih =>
    intro dep k hdk hd
    have h1 := m_part (o := o) (rs := m_readSum d) K hdk (fun j hj => ih (dep + 1) j (by omega) (by omega))
    have g1 := pPart_g (o := o) K.2.1 k
    have h2 := m_term K h1 g1
    exact m_sumW K h2 (fun p q hp hq => pTerm_g K.2.1 g1 hp hq)
