/-! the model's clauses and texts -/
variable {σ pl : Nat → Nat} {T : Nat} {o : Bool}
def claOf (x : Clz) : Cla := (x.1, x.2.1, x.2.2.2.2)
theorem claLen_of (x : Clz) : claLen (claOf x) = 1 + x.2.1.length + tll x.2.2.2.2 := by
  unfold claLen claOf tll
  cases x.2.2.2.2 <;> rfl
def CMl (σ pl : Nat → Nat) (T : Nat) (s0 s : Sg) (n : Nat) (x : Clz) (p q : Nat) : Prop :=
  MS s σ pl T false p q (n + claLen (claOf x)) ∧ claM (s.1 53 0) (s.1 54 0) n (claOf x) ∧ ∀ c, c < n → rI s 53 0 c = rI s0 53 0 c ∧ rI s 54 0 c = rI s0 54 0 c
def RMl (σ pl : Nat → Nat) (T : Nat) (s0 : Sg) (n : Nat) (r : CZ) (s : Sg) : Prop := match r with | .inr e => BM pl s e | .inl y => CMl σ pl T s0 s n y.1 y.2.1 y.2.2
theorem m_44_b (K : TK σ pl T) {s : Sg} {e n : Nat} (h : BM pl s e) (hn : n < 800) : ok (m_readClause_b44 s (nI n)) (fun s' => BM pl s' e) := by
  unfold m_readClause_b44 m_readClause_b44_G
  rw [m_take_b K h]
  simp only [Option.bind_some, gd_t (inb_nI (show n < 1000000 by omega) hn), ix_nI (show n < 1000000 by omega)]
  rw [gif_t trivial]
  exact ok_some (BM_w h (by omega))
theorem MS_54 {s : Sg} {p q n c : Nat} {v : Int32} (h : MS s σ pl T o p q n) : MS (wI s 54 0 c v) σ pl T o p q n := by
  obtain ⟨t1, t2, t3, t4, t5, t6, t7, t8⟩ := h
  refine ⟨fun j hj => ?_, ?_, ?_, ?_, ?_, ?_, ?_, ?_⟩
  · rw [rI_ne (by omega), rI_ne (by omega), rI_ne (by omega)]; exact t1 j hj
  · rw [rI_ne (by omega)]; exact t2
  · rw [rI_ne (by omega)]; exact t3
  · rw [rI_ne (by omega)]; exact t4
  · rw [rI_ne (by omega)]; exact t5
  · rw [rI_ne (by omega)]; exact t6
  · rw [rI_ne (by omega)]; exact t7
  · rw [rI_ne (by omega)]; exact t8
theorem m_44 (K : TK σ pl T) {s0 s2 : Sg} {p q n v : Nat} {A : List Ins} (hM : MS s2 σ pl T false p q (n + 1 + A.length)) (hc : (rI s2 53 0 n).toInt = v + 1) (hE : EncM (s2.1 53 0) (s2.1 54 0) (n + 1) A) (hk : ∀ c, c < n → rI s2 53 0 c = rI s0 53 0 c ∧ rI s2 54 0 c = rI s0 54 0 c) (hp : p ≤ T) (hq : q ≤ 50) (hn : n + 1 + A.length ≤ p) : ok (m_readClause_b44 s2 (nI n)) (RMl σ pl T s0 n (pTail σ false (hd v A [] 1 p q))) := by
  have T4 := K.1
  unfold m_readClause_b44 m_readClause_b44_G
  simp only [gd_t (inb_nI (show n < 1000000 by omega) (show n < 800 by omega)), ix_nI (show n < 1000000 by omega)]
  unfold pTail hd
  simp only []
  by_cases c : σ p = 3009
  · have hp1 := pT K.2.1 hp (by omega)
    rw [if_pos c, m_take_y K hM hp (m := 4) li_4 ((mc_w (by omega)).mpr (by omega))]
    simp only [Option.bind_some]
    have h1 := MS_adv hM (by omega)
    rw [gif_f (by decide), m_tell_y h1 (by omega)]
    simp only [Option.bind_some]
    have h2 := MS_op (c := 4) (w := 0) h1
    have e1 : ∀ k i x, ¬ (k = 53 ∧ x = n + 1 + A.length) ∧ ¬ (k = 54 ∧ x = n + 1 + A.length) ∧ ¬ (k = 10 ∧ (x = 24 ∨ x = 19)) → rI (mop (madv s2) (n + 1 + A.length) 4 0) k i x = rI s2 k i x := by
      intro k i x hx
      rw [mop_r (by omega)]
      unfold madv
      rw [rI_ne (by omega)]
    refine ok_bind (ok_mono ((m_test0 K).1 _ (p + 1) q (n + 1 + A.length + 1) h2 hp1 hq (by omega)) (fun s4 hx => ?_))
    have gs := pTest_g (o := false) K.2.1 8 hp1 hq
    cases hr : pTest σ false 8 (p + 1) q with
    | inr e =>
      rw [hr] at hx
      rw [pb_r]
      exact ok_some (BM_w (k := 54) (c := n) (v := rI s4 10 0 24) hx (by omega))
    | inl y =>
      obtain ⟨U, p', q'⟩ := y
      rw [hr] at hx gs
      obtain ⟨r1, r2, r3⟩ := RM_l.mp hx
      rw [pb_l]
      have g3 := (GR_l.mp gs).2.2.1
      have g2 := (GR_l.mp gs).2.1
      have e24 : rI s4 10 0 24 = nI (n + 1 + A.length + 1 + U.length) := r1.2.2.2.2.2.2.1
      have cl : claLen (claOf (v, A, [], 1, some U)) = 1 + A.length + (1 + U.length) := rfl
      refine ok_some ⟨MS_n (MS_54 r1) (by rw [cl]; omega), ⟨?_, ?_, EncM_k (fun i hi hi2 => ?_) hE, ?_, EncM_k (fun i hi _ => ?_) (r2 rfl)⟩, fun j hj => ?_⟩
      · show (rI (wI s4 54 0 n _) 53 0 n).toInt = _
        rw [rI_ne (by omega), (r3 n (by omega)).1, e1 _ _ _ (by omega)]; exact hc
      · show (rI (wI s4 54 0 n _) 54 0 n).toInt = _
        rw [rI_eq rfl, e24, nI_ti (by omega), cl]; omega
      · have hi2' : i < n + 1 + A.length := hi2
        refine ⟨?_, ?_⟩
        · show rI (wI s4 54 0 n _) 53 0 i = rI s2 53 0 i
          rw [rI_ne (by omega), (r3 i (by omega)).1, e1 _ _ _ (by omega)]
        · show rI (wI s4 54 0 n _) 54 0 i = rI s2 54 0 i
          rw [rI_ne (by omega), (r3 i (by omega)).2, e1 _ _ _ (by omega)]
      · show (rI (wI s4 54 0 n _) 53 0 (n + 1 + A.length)).toInt = 4
        rw [rI_ne (by omega), (r3 _ (by omega)).1, mop_c]; rfl
      · have hi' : n + 1 + A.length + 1 ≤ i := hi
        refine ⟨?_, ?_⟩
        · show rI (wI s4 54 0 n _) 53 0 i = rI s4 53 0 i
          rw [rI_ne (by omega)]
        · show rI (wI s4 54 0 n _) 54 0 i = rI s4 54 0 i
          rw [rI_ne (by omega)]
      · rw [rI_ne (by omega), rI_ne (by omega), (r3 j (by omega)).1, (r3 j (by omega)).2, e1 _ _ _ (by omega), e1 _ _ _ (by omega)]; exact hk j hj
  · rw [if_neg c, m_take_n K hM hp (m := 4) li_4 (fun x => c (by have := (mc_w (by omega)).mp x; omega))]
    simp only [Option.bind_some]
    rw [gif_t trivial]
    have e24 : rI s2 10 0 24 = nI (n + 1 + A.length) := hM.2.2.2.2.2.2.1
    have cl : claLen (claOf (v, A, [], 1, none)) = 1 + A.length := rfl
    refine ok_some ⟨MS_n (MS_54 hM) (by rw [cl]; omega), ⟨?_, ?_, EncM_k (fun i hi hi2 => ?_) hE, trivial⟩, fun j hj => ?_⟩
    · show (rI (wI s2 54 0 n _) 53 0 n).toInt = _
      rw [rI_ne (by omega)]; exact hc
    · show (rI (wI s2 54 0 n _) 54 0 n).toInt = _
      rw [rI_eq rfl, e24, nI_ti (by omega), cl]; omega
    · refine ⟨?_, ?_⟩
      · show rI (wI s2 54 0 n _) 53 0 i = rI s2 53 0 i
        rw [rI_ne (by omega)]
      · show rI (wI s2 54 0 n _) 54 0 i = rI s2 54 0 i
        rw [rI_ne (by omega)]
    · rw [rI_ne (by omega), rI_ne (by omega)]; exact hk j hj
theorem m_clause (K : TK σ pl T) {s : Sg} {p q n : Nat} (h : MS s σ pl T false p q n) (hp : p ≤ T) (hq : q ≤ 50) (hn : n ≤ p) : ok (m_readClause s) (RMl σ pl T s n (pOne σ false p q)) := by
  have T4 := K.1
  have mle := mc_le (σ p)
  unfold m_readClause m_readClause_G pOne
  rw [if_neg (by decide), h.2.2.2.2.1, gd_t (inb_nI (by omega) (by omega)), ix_nI (by omega), m_code h hp, m_tell_y h (by omega)]
  simp only [Option.bind_some]
  have h1 := MS_op (c := nI (mc (σ p))) (w := 0) h
  generalize hs1 : mop s n (nI (mc (σ p))) 0 = s1 at h1 ⊢
  have c1 : rI s1 53 0 n = nI (mc (σ p)) := by rw [← hs1, mop_c]
  have k1 : ∀ c, c < n → rI s1 53 0 c = rI s 53 0 c ∧ rI s1 54 0 c = rI s 54 0 c := fun c hc => by rw [← hs1, mop_r (by omega), mop_r (by omega)]; exact ⟨rfl, rfl⟩
  -- a sum is told
  have sum : (σ p = 3000 ∨ σ p = 3001) → ok ((m_readSum DR (madv s1) 0).bind fun s6 => m_readClause_b44 s6 (nI n)) (RMl σ pl T s n (pTail σ false (pRuleH σ p q))) := by
    intro c
    have hp1 := pT K.2.1 hp (by omega)
    have h2 := MS_adv h1 (by omega)
    have em : mc (σ p) = σ p - 3000 + 1 := by
      have := (mc_h (x := σ p) (c := σ p - 3000 + 1) (by omega)).mpr (by omega); exact this
    unfold pRuleH
    rw [if_pos (by omega), if_neg (by omega)]
    refine ok_bind (ok_mono ((m_sum0 K).1 (madv s1) (p + 1) q (n + 1) h2 hp1 hq (by omega)) (fun s6 hx => ?_))
    have gs := pSum_g (o := false) K.2.1 8 hp1 hq
    cases hr : pSum σ false 8 (p + 1) q with
    | inr e =>
      rw [hr] at hx
      rw [pb_r]
      exact m_44_b K hx (by omega)
    | inl y =>
      obtain ⟨A, p', q'⟩ := y
      rw [hr] at hx gs
      obtain ⟨r1, r2, r3⟩ := RM_l.mp hx
      obtain ⟨g1, g2, g3, g4, g5, g6⟩ := GR_l.mp gs
      rw [pb_l]
      have av : ∀ k i x, ¬ (k = 10 ∧ x = 19) → rI (madv s1) k i x = rI s1 k i x := fun k i x hn => by unfold madv; rw [rI_ne (by omega)]
      refine m_44 K r1 ?_ (r2 rfl) (fun c hc => ?_) g3 g5 (by omega)
      · rw [(r3 n (by omega)).1, av _ _ _ (by omega), c1, nI_ti (by omega), em]; omega
      · rw [(r3 c (by omega)).1, (r3 c (by omega)).2, av _ _ _ (by omega), av _ _ _ (by omega)]; exact k1 c hc
  by_cases c0 : σ p = 3000
  · rw [m_take_y K h1 hp (m := 1) li_1 ((mc_h (by omega)).mpr (by omega))]
    simp only [Option.bind_some]
    rw [gif_f (by decide)]
    exact sum (.inl c0)
  · rw [m_take_n K h1 hp (m := 1) li_1 (fun x => c0 (by have := (mc_h (by omega)).mp x; omega))]
    simp only [Option.bind_some]
    rw [gif_t trivial]
    by_cases c1' : σ p = 3001
    · rw [m_take_y K h1 hp (m := 2) li_2 ((mc_h (by omega)).mpr (by omega))]
      simp only [Option.bind_some]
      rw [gif_f (by decide)]
      exact sum (.inr c1')
    · rw [m_take_n K h1 hp (m := 2) li_2 (fun x => c1' (by have := (mc_h (by omega)).mp x; omega))]
      simp only [Option.bind_some]
      rw [gif_t trivial]
      unfold pRuleH
      by_cases c2 : σ p = 3002
      · have hp1 := pT K.2.1 hp (by omega)
        rw [m_must_y K h1 hp (m := 3) li_3 ((mc_h (by omega)).mpr (by omega)), if_pos (by omega), if_pos c2]
        simp only [Option.bind_some]
        have h2 := MS_adv h1 (by omega)
        have av : ∀ k i x, ¬ (k = 10 ∧ x = 19) → rI (madv s1) k i x = rI s1 k i x := fun k i x hn => by unfold madv; rw [rI_ne (by omega)]
        have em : mc (σ p) = 3 := (mc_h (by omega)).mpr (by omega)
        refine m_44 K (v := 2) (A := []) h2 ?_ trivial (fun c hc => ?_) hp1 hq (by show n + 1 + 0 ≤ p + 1; omega)
        · rw [av _ _ _ (by omega), c1, nI_ti (by omega), em]; rfl
        · rw [av _ _ _ (by omega), av _ _ _ (by omega)]; exact k1 c hc
      · rw [m_must_n K h1 hp (m := 3) li_3 (fun x => c2 (by have := (mc_h (by omega)).mp x; omega)), if_neg (by omega)]
        simp only [Option.bind_some]
        exact m_44_b K (bm_fault K h1 hp) (by omega)
/-! orders: no more than where they end -/
def RMo (σ pl : Nat → Nat) (T : Nat) (r : CZ) (s : Sg) : Prop := match r with | .inr e => BM pl s e | .inl y => ∃ n, n ≤ y.2.1 ∧ MS s σ pl T true y.2.1 y.2.2 n
theorem m_60_b (K : TK σ pl T) {s : Sg} {e : Nat} (h : BM pl s e) : m_readOrder_b60 s = some s := by
  unfold m_readOrder_b60 m_readOrder_b60_G
  rw [m_take_b K h]
  simp only [Option.bind_some]
  rw [gif_t trivial, m_take_b K h]
  simp only [Option.bind_some]
  rw [gif_t trivial]
theorem m_60 (K : TK σ pl T) {s : Sg} {p q n v : Nat} {A B : List Ins} (h : MS s σ pl T true p q n) (hp : p ≤ T) (hq : q ≤ 50) (hn : n ≤ p) : ok (m_readOrder_b60 s) (RMo σ pl T (pTail σ true (pTimes σ v A B p q))) := by
  have T4 := K.1
  -- the test
  have tst : ∀ (s1 : Sg) (p1 t : Nat), MS s1 σ pl T true p1 q n → p1 ≤ T → n ≤ p1 → ok ((m_takes0 s1 4).bind fun q2 => gif (q2.2 = 0) (some q2.1) ((m_readTest DR q2.1 0).bind fun s3 => some s3)) (RMo σ pl T (pTail σ true (hd v A B t p1 q))) := by
    intro s1 p1 t h1 hp1 hn1
    unfold pTail hd
    simp only []
    by_cases c : σ p1 = 3009
    · have hp2 := pT K.2.1 hp1 (by omega)
      rw [if_pos c, m_take_y K h1 hp1 (m := 4) li_4 ((mc_w (by omega)).mpr (by omega))]
      simp only [Option.bind_some]
      rw [gif_f (by decide)]
      refine ok_bind (ok_mono ((m_test0 K).1 (madv s1) (p1 + 1) q n (MS_adv h1 (by omega)) hp2 hq (by omega)) (fun s3 hx => ok_some ?_))
      have gs := pTest_g (o := true) K.2.1 8 hp2 hq
      cases hr : pTest σ true 8 (p1 + 1) q with
      | inr e => rw [hr] at hx; exact hx
      | inl y =>
        obtain ⟨U, p', q'⟩ := y
        rw [hr] at hx gs
        have g2 := (GR_l.mp gs).2.1
        exact ⟨n + U.length, by show n + U.length ≤ p'; omega, (RM_l.mp hx).1⟩
    · rw [if_neg c, m_take_n K h1 hp1 (m := 4) li_4 (fun x => c (by have := (mc_w (by omega)).mp x; omega))]
      simp only [Option.bind_some]
      rw [gif_t trivial]
      exact ok_some ⟨n, hn1, h1⟩
  unfold m_readOrder_b60 m_readOrder_b60_G pTimes
  by_cases c : σ p = 3008
  · have hp1 := pT K.2.1 hp (by omega)
    rw [if_pos c, m_take_y K h hp (m := 27) li_27 (mc_27.mpr c)]
    simp only [Option.bind_some]
    rw [gif_f (by decide)]
    have h1 := MS_adv h (by omega)
    by_cases c2 : 1 ≤ σ (p + 1) ∧ σ (p + 1) ≤ 20
    · have hp2 := pT K.2.1 hp1 (by omega)
      rw [if_pos c2, m_num_y K h1 hp1 (a := 1) (b := 20) li_1 li_20 (by omega) c2]
      exact tst (madv (madv s)) (p + 2) _ (MS_adv h1 (by omega)) hp2 (by omega)
    · rw [if_neg c2, m_num_n K h1 hp1 (a := 1) (b := 20) li_1 li_20 (by omega) c2]
      have bm := bm_fault K h1 hp1
      simp only [Option.bind_some, m_take_b K bm]
      rw [gif_t trivial]
      exact ok_some bm
  · rw [if_neg c, m_take_n K h hp (m := 27) li_27 (fun x => c (mc_27.mp x))]
    simp only [Option.bind_some]
    rw [gif_t trivial]
    exact tst s p _ h hp hn
theorem m_order (K : TK σ pl T) {s : Sg} {p q n : Nat} (h : MS s σ pl T true p q n) (hp : p ≤ T) (hq : q ≤ 50) (hn : n ≤ p) : ok (m_readOrder s) (RMo σ pl T (pOne σ true p q)) := by
  have T4 := K.1
  have S0 := m_sum0 (o := true) K
  unfold m_readOrder m_readOrder_G pOne pOrderH
  rw [if_pos rfl]
  have h1 := MS_adv h (show p < 1000 by omega)
  -- a verb with one sum
  have one : (σ p = 3003 ∨ σ p = 3004) → ok ((m_readSum DR (madv s) 0).bind fun s6 => m_readOrder_b60 s6) (RMo σ pl T (pTail σ true (pb (pSum σ true 8 (p + 1) q) (fun A p' q' => if σ p = 3005 then (if σ p' = 3007 then pb (pSum σ true 8 (p' + 1) q') (fun B p2 q2 => pTimes σ 2 A B p2 q2) else .inr p') else pTimes σ (σ p - 3003) A [] p' q')))) := by
    intro c
    have hp1 := pT K.2.1 hp (by omega)
    refine ok_bind (ok_mono (S0.1 (madv s) (p + 1) q n h1 hp1 hq (by omega)) (fun s6 hx => ?_))
    have gs := pSum_g (o := true) K.2.1 8 hp1 hq
    cases hr : pSum σ true 8 (p + 1) q with
    | inr e =>
      rw [hr] at hx
      rw [pb_r, m_60_b K hx]
      exact ok_some hx
    | inl y =>
      obtain ⟨A, p', q'⟩ := y
      rw [hr] at hx gs
      obtain ⟨g1, g2, g3, g4, g5, g6⟩ := GR_l.mp gs
      rw [pb_l, if_neg (by omega)]
      exact m_60 K (RM_l.mp hx).1 g3 g5 (by omega)
  by_cases c5 : σ p = 3005
  · have hp1 := pT K.2.1 hp (by omega)
    rw [m_take_y K h hp (m := 24) li_24 ((mc_o (by omega)).mpr (by omega)), if_pos (by omega), if_neg (by omega)]
    simp only [Option.bind_some]
    rw [gif_f (by decide)]
    refine ok_bind (ok_mono (S0.1 (madv s) (p + 1) q n h1 hp1 hq (by omega)) (fun s6 hx => ?_))
    have gs := pSum_g (o := true) K.2.1 8 hp1 hq
    cases hr : pSum σ true 8 (p + 1) q with
    | inr e =>
      rw [hr] at hx
      have hB : BM pl s6 e := hx
      have sb : m_readSum DR s6 0 = some s6 := S0.2 s6 e hB
      rw [pb_r, m_must_b K hB]
      simp only [Option.bind_some]
      rw [sb]
      simp only [Option.bind_some]
      rw [m_60_b K hB]
      exact ok_some hB
    | inl y =>
      obtain ⟨A, p', q'⟩ := y
      rw [hr] at hx gs
      obtain ⟨g1, g2, g3, g4, g5, g6⟩ := GR_l.mp gs
      have h6 := (RM_l.mp hx).1
      rw [pb_l, if_pos c5]
      by_cases c7 : σ p' = 3007
      · have hp2 := pT K.2.1 g3 (by omega)
        rw [if_pos c7, m_must_y K h6 g3 (m := 25) li_25 (mc_25.mpr c7)]
        simp only [Option.bind_some]
        refine ok_bind (ok_mono (S0.1 (madv s6) (p' + 1) q' (n + A.length) (MS_adv h6 (by omega)) hp2 g5 (by omega)) (fun s9 hx2 => ?_))
        have gs2 := pSum_g (o := true) K.2.1 8 hp2 g5
        cases hr2 : pSum σ true 8 (p' + 1) q' with
        | inr e =>
          rw [hr2] at hx2
          rw [pb_r, m_60_b K hx2]
          exact ok_some hx2
        | inl y =>
          obtain ⟨B, p2, q2⟩ := y
          rw [hr2] at hx2 gs2
          obtain ⟨f1, f2, f3, f4, f5, f6⟩ := GR_l.mp gs2
          rw [pb_l]
          exact m_60 K (RM_l.mp hx2).1 f3 f5 (by omega)
      · rw [if_neg c7, m_must_n K h6 g3 (m := 25) li_25 (fun x => c7 (mc_25.mp x))]
        have bm := bm_fault K h6 g3
        have sb := S0.2 _ _ bm
        simp only [Option.bind_some]
        simp only [] at sb
        rw [sb]
        simp only [Option.bind_some]
        rw [m_60_b K bm]
        exact ok_some bm
  · rw [m_take_n K h hp (m := 24) li_24 (fun x => c5 (by have := (mc_o (by omega)).mp x; omega))]
    simp only [Option.bind_some]
    rw [gif_t trivial]
    by_cases c3 : σ p = 3003
    · rw [m_take_y K h hp (m := 22) li_22 ((mc_o (by omega)).mpr (by omega)), if_pos (by omega), if_neg (by omega)]
      simp only [Option.bind_some]
      rw [gif_f (by decide)]
      exact one (.inl c3)
    · rw [m_take_n K h hp (m := 22) li_22 (fun x => c3 (by have := (mc_o (by omega)).mp x; omega))]
      simp only [Option.bind_some]
      rw [gif_t trivial]
      by_cases c4 : σ p = 3004
      · rw [m_take_y K h hp (m := 23) li_23 ((mc_o (by omega)).mpr (by omega)), if_pos (by omega), if_neg (by omega)]
        simp only [Option.bind_some]
        rw [gif_f (by decide)]
        exact one (.inr c4)
      · rw [m_take_n K h hp (m := 23) li_23 (fun x => c4 (by have := (mc_o (by omega)).mp x; omega))]
        simp only [Option.bind_some]
        rw [gif_t trivial]
        by_cases c6 : σ p = 3006
        · have hp1 := pT K.2.1 hp (by omega)
          rw [m_must_y K h hp (m := 26) li_26 (mc_26.mpr c6), if_pos (by omega), if_pos c6]
          simp only [Option.bind_some]
          exact m_60 K h1 hp1 hq (by omega)
        · rw [m_must_n K h hp (m := 26) li_26 (fun x => c6 (mc_26.mp x)), if_neg (by omega)]
          have bm := bm_fault K h hp
          simp only [Option.bind_some, m_60_b K bm]
          exact ok_some bm
/-! the whole text -/
theorem claM_k {c v c' v' : Nat → Int32} {k : Nat} {x : Cla} (h : claM c v k x) (g : ∀ i, i < k + claLen x → c' i = c i ∧ v' i = v i) : claM c' v' k x := by
  obtain ⟨h1, h2, h3, h4⟩ := h
  unfold claLen at g
  refine ⟨by rw [(g k (by omega)).1]; exact h1, by rw [(g k (by omega)).2]; exact h2, EncM_k (fun i _ hi => g i (by omega)) h3, ?_⟩
  cases hU : x.2.2 with
  | none => trivial
  | some U =>
    rw [hU] at h4 g
    simp only at h4 g
    exact ⟨by rw [(g _ (by omega)).1]; exact h4.1, EncM_k (fun i _ hi => g i (by omega)) h4.2⟩
theorem clasM_k {c v c' v' : Nat → Int32} : ∀ {C : List Cla} {k : Nat}, clasM c v k C → (∀ i, i < k + clasLen C → c' i = c i ∧ v' i = v i) → clasM c' v' k C := by
  intro C
  induction C with
  | nil => intro k _ _; trivial
  | cons x r ih =>
    intro k h g
    unfold clasLen at g
    exact ⟨claM_k h.1 (fun i hi => g i (by omega)), ih h.2 (fun i hi => g i (by omega))⟩
theorem clasM_app {c v : Nat → Int32} {x : Cla} : ∀ {C : List Cla} {k : Nat}, clasM c v k C → claM c v (k + clasLen C) x → clasM c v k (C ++ [x]) := by
  intro C
  induction C with
  | nil => intro k _ g; exact ⟨g, trivial⟩
  | cons y r ih =>
    intro k h g
    unfold clasLen at g
    exact ⟨h.1, ih h.2 (by rw [show k + claLen y + clasLen r = k + (claLen y + clasLen r) by omega]; exact g)⟩
theorem clasLen_app {x : Cla} : ∀ {C : List Cla}, clasLen (C ++ [x]) = clasLen C + claLen x := by
  intro C
  induction C with
  | nil => show claLen x + 0 = 0 + claLen x; omega
  | cons y r ih => show claLen y + clasLen (r ++ [x]) = claLen y + clasLen r + claLen x; omega
/-- the state behind some clauses -/
def TMs (σ pl : Nat → Nat) (T : Nat) (o : Bool) (s : Sg) (L : List Clz) (p q : Nat) : Prop :=
  ∃ n, n ≤ p ∧ MS s σ pl T o p q n ∧ (o = false → n = clasLen (L.map claOf) ∧ clasM (s.1 53 0) (s.1 54 0) 0 (L.map claOf))
theorem m_one (K : TK σ pl T) {s : Sg} {L : List Clz} {p q : Nat} (h : TMs σ pl T o s L p q) (hp : p ≤ T) (hq : q ≤ 50) : ok (m_readOne s) (fun s' => match pOne σ o p q with | .inr e => BM pl s' e | .inl y => TMs σ pl T o s' (L ++ [y.1]) y.2.1 y.2.2) := by
  obtain ⟨n, hn, hM, hL⟩ := h
  have gc := pOne_g (o := o) K.2.1 hp hq
  unfold m_readOne m_readOne_G
  rw [hM.2.1]
  cases o with
  | false =>
    rw [gif_t (show oI false = 0 from rfl)]
    refine ok_bind (ok_mono (m_clause K hM hp hq hn) (fun s' hx => ok_some ?_))
    cases hr : pOne σ false p q with
    | inr e => rw [hr] at hx; exact hx
    | inl y =>
      rw [hr] at hx gc
      obtain ⟨x1, x2, x3⟩ := hx
      obtain ⟨l1, l2⟩ := hL rfl
      have cl := claLen_of y.1
      have le : 1 + y.1.2.1.length + bl y.1.2.2.1 + tll y.1.2.2.2.2 + p ≤ y.2.1 := gc.2.2.2.2.2.2.2.1
      refine ⟨n + claLen (claOf y.1), by omega, x1, fun _ => ?_⟩
      rw [List.map_append, List.map_cons, List.map_nil, clasLen_app]
      refine ⟨by omega, clasM_app (clasM_k l2 (fun i hi => x3 i (by omega))) ?_⟩
      rw [Nat.zero_add, ← l1]; exact x2
  | true =>
    rw [gif_f (show ¬ oI true = 0 by decide)]
    refine ok_bind (ok_mono (m_order K hM hp hq hn) (fun s' hx => ok_some ?_))
    cases hr : pOne σ true p q with
    | inr e => rw [hr] at hx; exact hx
    | inl y =>
      rw [hr] at hx
      obtain ⟨n', h1, h2⟩ := hx
      exact ⟨n', h1, h2, fun ho => absurd ho (by decide)⟩
def TMR (σ pl : Nat → Nat) (T : Nat) (o : Bool) (r : List Clz ⊕ Nat) (y : Sg × Int32) : Prop :=
  match r with
  | .inr e => y.2 = 0 ∧ rI y.1 10 0 14 = nI (pl e)
  | .inl L => y.2 = 1 ∧ rI y.1 10 0 14 = -1 ∧ ∃ p q, p ≤ T ∧ TMs σ pl T o y.1 L p q
theorem TMs_14 {s : Sg} {L : List Clz} {p q : Nat} {v : Int32} (h : TMs σ pl T o s L p q) : TMs σ pl T o (wI s 10 0 14 v) L p q := by
  obtain ⟨n, hn, ⟨t1, t2, t3, t4, t5, t6, t7, t8⟩, hL⟩ := h
  refine ⟨n, hn, ⟨fun j hj => ?_, ?_, ?_, ?_, ?_, ?_, ?_, ?_⟩, fun ho => ⟨(hL ho).1, clasM_k (hL ho).2 (fun i _ => ?_)⟩⟩
  · rw [rI_ne (by omega), rI_ne (by omega), rI_ne (by omega)]; exact t1 j hj
  · rw [rI_ne (by omega)]; exact t2
  · rw [rI_ne (by omega)]; exact t3
  · rw [rI_ne (by omega)]; exact t4
  · rw [rI_ne (by omega)]; exact t5
  · rw [rI_ne (by omega)]; exact t6
  · rw [rI_ne (by omega)]; exact t7
  · rw [rI_ne (by omega)]; exact t8
  · exact ⟨show rI (wI s 10 0 14 v) 53 0 i = rI s 53 0 i from rI_ne (by omega), show rI (wI s 10 0 14 v) 54 0 i = rI s 54 0 i from rI_ne (by omega)⟩
def aft (σ : Nat → Nat) (o : Bool) (m c : Nat) (L : List Clz) (p q : Nat) : List Clz ⊕ Nat := if σ p = 4000 then .inl L else if σ p = 2059 then pTxt σ o m c L (p + 1) q else .inr p
theorem m_text (K : TK σ pl T) (hT : ∀ k, k < T → σ k ≠ 4000) {s : Sg} (h : TMs σ pl T o s [] 0 0) (h18 : rI s 10 0 18 = nI T) : ok ((m_readOne s).bind fun s7 => m_reads_b39 FU s7 1) (TMR σ pl T o (pTxt σ o 14 0 [] 0 0)) := by
  have T4 := K.1
  have k159 : (100 + 59 : Int32).toInt = ((159 : Nat) : Int) := by decide
  obtain ⟨s7, e7, h7⟩ := m_one K h (by omega) (by omega)
  have F7 := fr_m_readOne s s7 e7
  have T7 : rI s7 10 0 18 = nI T := by rw [F7.i 10 0 18 (by intro x; simp [hit] at x)]; exact h18
  rw [e7]
  simp only [Option.bind_some]
  -- one clause more
  have step : ∀ (m c : Nat) (L : List Clz) (p q : Nat) (s : Sg), c < 12 → (match pOne σ o p q with | .inr e => BM pl s e | .inl y => TMs σ pl T o s (L ++ [y.1]) y.2.1 y.2.2) → (∃ e, pTxt σ o (m + 1) c L p q = .inr e ∧ BM pl s e) ∨ (∃ L' p' q', pTxt σ o (m + 1) c L p q = aft σ o m (c + 1) L' p' q' ∧ TMs σ pl T o s L' p' q' ∧ (∃ y, pOne σ o p q = .inl (y, p', q'))) := by
    intro m c L p q s hc hx
    rw [pTxt_s, if_neg (by omega)]
    cases hr : pOne σ o p q with
    | inr e => rw [hr] at hx; exact .inl ⟨e, rfl, hx⟩
    | inl y =>
      obtain ⟨x, p', q'⟩ := y
      rw [hr] at hx
      exact .inr ⟨L ++ [x], p', q', rfl, hx, x, rfl⟩
  have pos : ∀ p q y p' q', p ≤ T → q ≤ 50 → pOne σ o p q = .inl (y, p', q') → p' ≤ T ∧ q' ≤ 50 := by
    intro p q y p' q' hp hq e
    have := pOne_g (o := o) K.2.1 hp hq
    rw [e] at this
    exact ⟨this.2.2.2.2.2.2.2.2.1, this.2.2.2.2.2.2.2.2.2⟩
  generalize hR : pTxt σ o 14 0 [] 0 0 = R0
  have st : (∃ e, R0 = .inr e ∧ BM pl s7 e) ∨ ∃ m c L p q, (1 : Int32) = nI c ∧ 1 ≤ c ∧ c ≤ 12 ∧ 13 ≤ m + c ∧ R0 = aft σ o m c L p q ∧ TMs σ pl T o s7 L p q ∧ p ≤ T ∧ q ≤ 50 := by
    rcases step 13 0 [] 0 0 s7 (by omega) h7 with ⟨e, h1, h2⟩ | ⟨L', p', q', h1, h2, y, hy⟩
    · exact .inl ⟨e, by rw [← hR]; exact h1, h2⟩
    · obtain ⟨a, b⟩ := pos 0 0 y p' q' (by omega) (by omega) hy
      exact .inr ⟨13, 1, L', p', q', rfl, by omega, by omega, by omega, by rw [← hR]; exact h1, h2, a, b⟩
  have mu20 : ∀ (p : Prop) [Decidable p] (x : Nat), (if p then 20 - x else 0) < 20000 := fun p _ x => by by_cases c : p <;> simp [c] <;> omega
  refine ok_loop (K := fun fu (y : Sg × Int32) => m_reads_b39 fu y.1 y.2) (I := fun y => rI y.1 10 0 18 = nI T ∧ ((∃ e, R0 = .inr e ∧ BM pl y.1 e) ∨ ∃ m c L p q, y.2 = nI c ∧ 1 ≤ c ∧ c ≤ 12 ∧ 13 ≤ m + c ∧ R0 = aft σ o m c L p q ∧ TMs σ pl T o y.1 L p q ∧ p ≤ T ∧ q ≤ 50))
    (μ := fun y => if rI y.1 10 0 21 = -1 then 20 - y.2.toInt.toNat else 0) ?_ FU (s7, 1) ⟨T7, st⟩ (by show (if _ then _ else _) < 20000; exact mu20 _ _)
  rintro fu ⟨s2, l⟩ ⟨hT18, hI⟩ ih
  simp only at hI ih hT18
  show ok (m_reads_b39_G _ _ _ _ _ _ s2 l) _
  unfold m_reads_b39_G
  simp only [m_sgn, Option.bind_some]
  -- the end of a bad text
  have bad : ∀ (s3 : Sg) (e : Nat), R0 = .inr e → BM pl s3 e → ok ((m_fine (wI s3 10 0 14 (rI s3 10 0 21))).bind fun q5 => gd (isB q5.2) (some (q5.1, q5.2))) (TMR σ pl T o R0) := by
    intro s3 e hR' hB
    have hB' : BM pl (wI s3 10 0 14 (rI s3 10 0 21)) e := BM_w hB (by omega)
    rw [m_fine_b K hB', hR']
    simp only [Option.bind_some, gdB0]
    exact ok_some ⟨rfl, by rw [rI_eq rfl]; exact hB.1⟩
  rcases hI with ⟨e, hR', hB⟩ | ⟨m, c, L, p, q, hl, c1, c12, hm, hR', hTM, hp, hq⟩
  · rw [m_take_b K hB]
    simp only [Option.bind_some]
    rw [gif_t trivial, m_fine_b K hB]
    simp only [Option.bind_some]
    rw [gif_t trivial]
    exact bad s2 e hR' hB
  · subst hl
    obtain ⟨n, hn, hM, hL⟩ := hTM
    unfold aft at hR'
    by_cases c4 : σ p = 2059
    · rw [if_neg (by omega), if_pos c4] at hR'
      have hp1 := pT K.2.1 hp (by omega)
      rw [m_take_y K hM hp k159 ((mc_b (by omega)).mpr (by omega))]
      simp only [Option.bind_some]
      rw [gif_f (by decide)]
      have h1 := MS_adv hM (by omega)
      have T1 : TMs σ pl T o (madv s2) L (p + 1) q := ⟨n, by omega, h1, fun ho => ⟨(hL ho).1, clasM_k (hL ho).2 (fun i _ => ⟨show rI (madv s2) 53 0 i = rI s2 53 0 i by unfold madv; rw [rI_ne (by omega)], show rI (madv s2) 54 0 i = rI s2 54 0 i by unfold madv; rw [rI_ne (by omega)]⟩)⟩⟩
      have T18' : rI (madv s2) 10 0 18 = nI T := by unfold madv; rw [rI_ne (by omega)]; exact hT18
      have mu0 : (if rI s2 10 0 21 = -1 then 20 - (nI c).toInt.toNat else 0) = 20 - c := by rw [if_pos hM.2.2.2.2.2.2.2, nI_ti (by omega)]; omega
      obtain ⟨m', rfl⟩ : ∃ m', m = m' + 1 := ⟨m - 1, by omega⟩
      by_cases c12' : c = 12
      · rw [gif_t (by rw [c12']; rfl), m_faults_y K h1 hp1]
        have bm := bm_fault K h1 hp1
        simp only [Option.bind_some, m_fine_b K bm]
        rw [gif_t trivial]
        rw [pTxt_s, if_pos (by omega)] at hR'
        refine ih (wI (madv s2) 10 0 21 (nI (pl (p + 1))), nI c + 1) ⟨?_, .inl ⟨p + 1, hR', bm⟩⟩ ?_
        · show rI (wI (madv s2) 10 0 21 (nI (pl (p + 1)))) 10 0 18 = nI T
          rw [rI_ne (by omega)]; exact T18'
        · show (if rI (wI (madv s2) 10 0 21 (nI (pl (p + 1)))) 10 0 21 = -1 then _ else 0) < _
          rw [if_neg (by rw [rI_eq rfl]; exact ne_m1 K _), mu0]; omega
      · rw [gif_f (by rw [ti_eq, nI_ti (by omega), li_12]; omega), m_fine_y h1.2.2.2.2.2.2.2]
        simp only [Option.bind_some]
        rw [gif_f (by decide), nI_s (by omega)]
        obtain ⟨s15, e15, h15⟩ := m_one K T1 hp1 hq
        have F15 := fr_m_readOne _ s15 e15
        have T15 : rI s15 10 0 18 = nI T := by rw [F15.i 10 0 18 (by intro x; simp [hit] at x)]; exact T18'
        rw [e15]
        simp only [Option.bind_some]
        rcases step m' c L (p + 1) q s15 (by omega) h15 with ⟨e, h1', h2'⟩ | ⟨L', p', q', h1', h2', y, hy⟩
        · refine ih (s15, nI (c + 1)) ⟨T15, .inl ⟨e, by rw [hR']; exact h1', h2'⟩⟩ ?_
          show (if rI s15 10 0 21 = -1 then _ else 0) < _
          rw [if_neg (by rw [h2'.1]; exact ne_m1 K _), mu0]; omega
        · obtain ⟨a, b⟩ := pos (p + 1) q y p' q' hp1 hq hy
          obtain ⟨n', hn', hM', hL'⟩ := h2'
          refine ih (s15, nI (c + 1)) ⟨T15, .inr ⟨m', c + 1, L', p', q', rfl, by omega, by omega, by omega, by rw [hR']; exact h1', ⟨n', hn', hM', hL'⟩, a, b⟩⟩ ?_
          show (if rI s15 10 0 21 = -1 then 20 - (nI (c + 1)).toInt.toNat else 0) < _
          rw [if_pos hM'.2.2.2.2.2.2.2, nI_ti (by omega), mu0]; omega
    · rw [m_take_n K hM hp k159 (fun x => c4 (by have := (mc_b (by omega)).mp x; omega))]
      simp only [Option.bind_some]
      rw [gif_t trivial, m_fine_y hM.2.2.2.2.2.2.2]
      simp only [Option.bind_some]
      rw [gif_f (by decide), hM.2.2.2.2.1, hT18]
      by_cases c5 : σ p = 4000
      · have ep : p = T := by
          rcases Nat.lt_or_ge p T with x | x
          · exact absurd c5 (hT p x)
          · omega
        rw [if_pos c5] at hR'
        rw [gif_f (by rw [ti_lt, nI_ti (by omega), nI_ti (by omega)]; omega), m_fine_y (by rw [rI_ne (by omega)]; exact hM.2.2.2.2.2.2.2), hR']
        simp only [Option.bind_some, gdB1]
        exact ok_some ⟨rfl, by rw [rI_eq rfl]; exact hM.2.2.2.2.2.2.2, p, q, hp, TMs_14 ⟨n, hn, hM, hL⟩⟩
      · rw [if_neg c5, if_neg c4] at hR'
        have lt := pT K.2.1 hp c5
        rw [gif_t (by rw [ti_lt, nI_ti (by omega), nI_ti (by omega)]; omega), m_faults_y K hM hp]
        simp only [Option.bind_some]
        exact bad _ p hR' (bm_fault K hM hp)
