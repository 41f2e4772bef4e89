/-! the model's tests -/
variable {σ pl : Nat → Nat} {T : Nat} {o : Bool}
theorem m_147_b (K : TK σ pl T) {rt : Sg → Int32 → Option Sg} {dep k : Nat} (hs : SM σ pl T o (fun s => m_readSum DR s (nI dep)) (pSum σ o k)) {s : Sg} {e : Nat} (h : BM pl s e) (l2 l4 : Int32) : m_readPlain_b147 rt s (nI dep) l2 l4 = some s := by
  unfold m_readPlain_b147 m_readPlain_b147_G
  have : m_readSum DR s (nI dep) = some s := hs.2 s e h
  rw [this]
  simp only [Option.bind_some, m_tell_b K h]
  exact gif_eq (fun _ => rfl) (fun _ => rfl)
/-- a test that may be turned round -/
theorem MR_tn {s0 s : Sg} {n : Nat} {P : List Ins} {p q : Nat} (h : MR σ pl T o s0 s n P p q) (hn : n + P.length < 800) (b : Bool) : ok (gif (oI b = 0) (some s) ((m_tellsOp s 7 0).bind fun q3 => some q3.1)) (fun s' => MR σ pl T o s0 s' n (P ++ tn b) p q) := by
  cases b with
  | false =>
    rw [gif_t (show oI false = 0 from rfl)]
    refine ok_some ?_
    show MR σ pl T o s0 s n (P ++ []) p q
    rw [List.append_nil]; exact h
  | true =>
    rw [gif_f (show ¬ oI true = 0 by decide), m_tell_y h.1 hn]
    exact ok_some (MR_op h (fun _ => ⟨rfl, fun x => by omega, by omega, by omega⟩))
theorem m_pos (K : TK σ pl T) {rt : Sg → Int32 → Option Sg} {dep k : Nat} (hdk : dep + k = 8) (ht : ∀ j, k = j + 1 → SM σ pl T o (fun s => rt s (nI (dep + 1))) (pTest σ o j)) (hs : SM σ pl T o (fun s => m_readSum DR s (nI dep)) (pSum σ o k)) {s0 s : Sg} {p q n : Nat} (hS : MR σ pl T o s0 s n [] p q) (hp : p ≤ T) (hq : q ≤ 50) (hn : n ≤ p + 30) (b : Bool) (n12 : σ p ≠ 3012) {fu : Nat} :
    ok (m_readPlain_b2 rt (fu + 1) s (nI dep) (oI b)) (RM σ pl T o s0 n (pPos σ o (brkP σ o k) k p q b)) := by
  have T4 := K.1
  have mle := mc_le (σ p)
  have h : MS s σ pl T o p q n := hS.1
  have f := m_fine_y h.2.2.2.2.2.2.2
  have k140 : (100 + 40 : Int32).toInt = ((140 : Nat) : Int) := by decide
  have k141 : (100 + 41 : Int32).toInt = ((141 : Nat) : Int) := by decide
  have k160 : (100 + 60 : Int32).toInt = ((160 : Nat) : Int) := by decide
  have k161 : (100 + 61 : Int32).toInt = ((161 : Nat) : Int) := by decide
  have k162 : (100 + 62 : Int32).toInt = ((162 : Nat) : Int) := by decide
  show ok (m_readPlain_b2_G _ _ _ _ _ _ _ _ _ s (nI dep) (oI b)) _
  unfold m_readPlain_b2_G pPos
  rw [m_take_n K h hp (m := 7) li_7 (fun x => n12 (by have := (mc_w (by omega)).mp x; omega))]
  simp only [Option.bind_some]
  rw [gif_t trivial, f]
  simp only [Option.bind_some, m_sgn]
  rw [gif_f (by decide), h.2.2.2.2.1, gd_t (inb_nI (by omega) (by omega)), ix_nI (by omega), m_code h hp]
  by_cases c : σ p = 2040
  · rw [gif_t ((mq (by omega) k140).mpr ((mc_b (by omega)).mpr (by omega))), if_pos c]
    cases k with
    | zero =>
      rw [gif_t (by rw [ti_eq, nI_ti (by omega), li_8]; omega), m_faults_y K h hp]
      simp only [Option.bind_some]
      unfold m_readPlain_b61 m_readPlain_b61_G
      rw [m_fine_b K (bm_fault K h hp)]
      simp only [Option.bind_some]
      rw [gif_t trivial]
      exact ok_some (bm_fault K h hp)
    | succ k =>
      have hp1 := pT K.2.1 hp (by omega)
      rw [gif_f (by rw [ti_eq, nI_ti (by omega), li_8]; omega)]
      unfold m_readPlain_b61 m_readPlain_b61_G
      rw [f]
      simp only [Option.bind_some, m_sgn]
      rw [gif_f (by decide), nI_s (by omega)]
      have r1 := MR_adv hS (by omega)
      show ok ((rt (madv s) (nI (dep + 1))).bind fun s3 => (m_must s3 (100 + 41)).bind fun s5 => gif (oI b = 0) (some s5) ((m_tellsOp s5 7 0).bind fun q6 => some q6.1)) _
      refine ok_bind (ok_mono ((ht k rfl).1 (madv s) (p + 1) q n r1.1 hp1 hq (by omega)) (fun s3 hs3 => ?_))
      have gs := pTest_g (o := o) K.2.1 k hp1 hq
      have e1 : brkP σ o (k + 1) p q = pb (pTest σ o k (p + 1) q) (fun P p' q' => if σ p' = 2041 then .inl (P, p' + 1, q') else .inr p') := rfl
      rw [e1]
      cases hr : pTest σ o k (p + 1) q with
      | inr e =>
        rw [hr] at hs3
        rw [pb_r, pb_r, m_must_b K hs3]
        simp only [Option.bind_some, m_tell_b K hs3]
        exact ok_gif (fun _ => ok_some hs3) (fun _ => ok_some hs3)
      | inl y =>
        obtain ⟨P, p', q'⟩ := y
        rw [hr] at hs3 gs
        obtain ⟨g1, g2, g3, g4, g5, g6⟩ := GR_l.mp gs
        have ra : MR σ pl T o s0 s3 n P p' q' := MR_app r1 (RM_l.mp hs3)
        rw [pb_l]
        by_cases c2 : σ p' = 2041
        · rw [if_pos c2, m_must_y K ra.1 g3 k141 ((mc_b (by omega)).mpr (by omega)), pb_l]
          simp only [Option.bind_some]
          exact MR_tn (MR_adv ra (by omega)) (by omega) b
        · rw [if_neg c2, m_must_n K ra.1 g3 k141 (fun x => c2 (by have := (mc_b (by omega)).mp x; omega)), pb_r]
          have bm := bm_fault K ra.1 g3
          simp only [Option.bind_some, m_tell_b K bm]
          exact ok_gif (fun _ => ok_some bm) (fun _ => ok_some bm)
  · rw [gif_f (fun x => c (by have := (mc_b (by omega)).mp ((mq (by omega) k140).mp x); omega)), if_neg c]
    refine ok_bind (ok_mono (hs.1 s p q n h hp hq hn) (fun s5 hs5 => ?_))
    have gs := pSum_g (o := o) K.2.1 k hp hq
    unfold pCmp
    cases hr : pSum σ o k p q with
    | inr e =>
      rw [hr] at hs5
      obtain ⟨t, t1, t2⟩ := hs5.2
      have hB : BM pl s5 e := hs5
      rw [pb_r, pb_r, t2, gd_t (inb_nI (by omega) (by omega)), m_take_b K hB]
      simp only [Option.bind_some, m_take_b K hB, m_must_b K hB, m_147_b K hs hB]
      rw [gif_t trivial, gif_t trivial]
      exact ok_some hB
    | inl y =>
      obtain ⟨P, p', q'⟩ := y
      rw [hr] at hs5 gs
      obtain ⟨g1, g2, g3, g4, g5, g6⟩ := GR_l.mp gs
      have ra : MR σ pl T o s0 s5 n P p' q' := by
        have := MR_app (P := []) hS (by simpa using RM_l.mp hs5)
        simpa using this
      have mle' := mc_le (σ p')
      rw [pb_l, ra.1.2.2.2.2.1, gd_t (inb_nI (by omega) (by omega)), ix_nI (by omega), m_code ra.1 g3]
      -- behind the sign
      have rest : opC (σ p') ≠ 0 → ok (m_readPlain_b147 rt (madv s5) (nI dep) (oI b) (nI (mc (σ p')))) (RM σ pl T o s0 n (pb (if opC (σ p') = 0 then (.inr p' : PR) else pb (pSum σ o k (p' + 1) q') (fun Q p2 q2 => .inl (P ++ Q ++ [(opC (σ p'), 0)], p2, q2))) (fun P p' q' => .inl (P ++ tn b, p', q')))) := by
        intro w0
        have ww := (opC_ok (σ p')).resolve_left w0
        have hp1 := pT K.2.1 g3 ww.2.2
        have r1 := MR_adv ra (by omega)
        rw [if_neg w0]
        unfold m_readPlain_b147 m_readPlain_b147_G
        refine ok_bind (ok_mono (hs.1 (madv s5) (p' + 1) q' (n + P.length) r1.1 hp1 g5 (by omega)) (fun s6 hs6 => ?_))
        have gs2 := pSum_g (o := o) K.2.1 k hp1 g5
        cases hr2 : pSum σ o k (p' + 1) q' with
        | inr e =>
          rw [hr2] at hs6
          have hB : BM pl s6 e := hs6
          rw [pb_r, pb_r]
          simp only [Option.bind_some, m_tell_b K hB]
          exact ok_gif (fun _ => ok_some hB) (fun _ => ok_some hB)
        | inl y =>
          obtain ⟨Q, p2, q2⟩ := y
          rw [hr2] at hs6 gs2
          obtain ⟨k1, k2, k3, k4, k5, k6⟩ := GR_l.mp gs2
          have rb := MR_app r1 (RM_l.mp hs6)
          have hlen : n + (P ++ Q).length < 700 := by rw [List.length_append]; omega
          rw [pb_l, pb_l, m_tell_y rb.1 (by omega)]
          simp only [Option.bind_some]
          have rc : MR σ pl T o s0 (mop s6 (n + (P ++ Q).length) (nI (mc (σ p'))) 0) n (P ++ Q ++ [(opC (σ p'), 0)]) p2 q2 := MR_op rb (fun _ => ⟨by rw [nI_ti (by omega)]; exact (enc_op w0 (.inr (.inr rfl))).1, fun x => by omega, by omega, by omega⟩)
          exact MR_tn rc (by simp only [List.length_append, List.length_cons, List.length_nil] at hlen ⊢; omega) b
      by_cases c1 : σ p' = 2060
      · rw [m_take_y K ra.1 g3 k160 ((mc_b (by omega)).mpr (by omega))]
        simp only [Option.bind_some]
        rw [gif_f (by decide)]
        exact rest (by rw [c1]; decide)
      · rw [m_take_n K ra.1 g3 k160 (fun x => c1 (by have := (mc_b (by omega)).mp x; omega))]
        simp only [Option.bind_some]
        rw [gif_t trivial]
        by_cases c2 : σ p' = 2062
        · rw [m_take_y K ra.1 g3 k162 ((mc_b (by omega)).mpr (by omega))]
          simp only [Option.bind_some]
          rw [gif_f (by decide)]
          exact rest (by rw [c2]; decide)
        · rw [m_take_n K ra.1 g3 k162 (fun x => c2 (by have := (mc_b (by omega)).mp x; omega))]
          simp only [Option.bind_some]
          rw [gif_t trivial]
          by_cases c3 : σ p' = 2061
          · rw [m_must_y K ra.1 g3 k161 ((mc_b (by omega)).mpr (by omega))]
            simp only [Option.bind_some]
            exact rest (by rw [c3]; decide)
          · have z0 : opC (σ p') = 0 := by unfold opC; rw [if_neg c1, if_neg c2, if_neg c3]
            rw [m_must_n K ra.1 g3 k161 (fun x => c3 (by have := (mc_b (by omega)).mp x; omega)), if_pos z0, pb_r]
            have bm := bm_fault K ra.1 g3
            simp only [Option.bind_some, m_147_b K hs bm]
            exact ok_some bm
theorem m_plain (K : TK σ pl T) {rt : Sg → Int32 → Option Sg} {dep k : Nat} (hdk : dep + k = 8) (ht : ∀ j, k = j + 1 → SM σ pl T o (fun s => rt s (nI (dep + 1))) (pTest σ o j)) (hs : SM σ pl T o (fun s => m_readSum DR s (nI dep)) (pSum σ o k)) : SM σ pl T o (fun s => m_readPlain rt s (nI dep)) (pPlain σ o k) := by
  have fb : ∀ s e, BM pl s e → ∀ n l2, m_readPlain_b2 rt (n + 1) s (nI dep) l2 = some s := by
    intro s e h n l2
    show m_readPlain_b2_G _ _ _ _ _ _ _ _ _ s (nI dep) l2 = _
    unfold m_readPlain_b2_G
    rw [m_take_b K h]
    simp only [Option.bind_some]
    rw [gif_t trivial, m_fine_b K h]
    simp only [Option.bind_some]
    rw [gif_t trivial]
  refine ⟨fun s p q n h hp hq hn => ?_, fun s e h => ?_⟩
  · have T4 := K.1
    rw [pPlain_b]
    show ok (m_readPlain rt s (nI dep)) (RM σ pl T o s n (pPos σ o (brkP σ o k) k (nots σ 402 p false).1 q (nots σ 402 p false).2))
    generalize hN : nots σ 402 p false = N0
    unfold m_readPlain m_readPlain_G
    refine ok_loop (K := fun fu (y : Sg × Int32) => m_readPlain_b2 rt fu y.1 (nI dep) y.2) (I := fun y => ∃ m p' b, nots σ m p' b = N0 ∧ MR σ pl T o s y.1 n [] p' q ∧ y.2 = oI b ∧ 402 ≤ m + p' ∧ p ≤ p' ∧ p' ≤ T)
      (μ := fun y => mes y.1) ?_ FU (s, 0) ⟨402, p, false, hN, MR_0 h, rfl, by omega, by omega, hp⟩ (by have := mes_le s; show _ < 20000; simp only []; omega)
    rintro fu ⟨s2, l2⟩ ⟨m, p', b, hm, hS, hb, hn', hpp, hpT⟩ ih
    simp only at hS hb ih
    subst hb
    obtain ⟨m', rfl⟩ : ∃ m', m = m' + 1 := ⟨m - 1, by omega⟩
    by_cases c : σ p' = 3012
    · rw [nots_s, if_pos c] at hm
      have hp1 := pT K.2.1 hpT (by omega)
      have r1 := MR_adv hS (by omega)
      have ms : mes (madv s2) < mes s2 := by rw [mes_g r1.1 (by omega), mes_g hS.1 (by omega)]; omega
      show ok (m_readPlain_b2_G _ _ _ _ _ _ _ _ _ s2 (nI dep) (oI b)) _
      unfold m_readPlain_b2_G
      rw [m_take_y K hS.1 hpT (m := 7) li_7 ((mc_w (by omega)).mpr (by omega))]
      simp only [Option.bind_some]
      rw [gif_f (by decide)]
      cases b with
      | false =>
        rw [gif_t (show oI false = 0 from rfl)]
        exact ih (madv s2, 1) ⟨m', p' + 1, true, hm, r1, rfl, by omega, by omega, hp1⟩ ms
      | true =>
        rw [gif_f (show ¬ oI true = 0 by decide)]
        exact ih (madv s2, 0) ⟨m', p' + 1, false, hm, r1, rfl, by omega, by omega, hp1⟩ ms
    · rw [nots_s, if_neg c] at hm
      subst hm
      exact m_pos K hdk ht hs hS hpT hq (by omega) b c
  · show m_readPlain rt s (nI dep) = some s
    unfold m_readPlain m_readPlain_G
    rw [show FU = 19999 + 1 from rfl]; exact fb s e h 19999 0
theorem m_nextj {s0 s : Sg} {p0 q0 n w k : Nat} {R0 : PR} {sub : Nat → Nat → PR} {f : Sg → Option Sg} (K : TK σ pl T) (hf : SM σ pl T o f sub) (hg : ∀ p q, p ≤ T → q ≤ 50 → GR (wfB (nfo o)) T p q (sub p q)) (hn0 : n ≤ p0 + 30)
    {m : Nat} {P : List Ins} {p q : Nat} (hR : R0 = lj σ w k sub m P p q) (hS : MR σ pl T o s0 s n P p q) (hG : GR (wfB (nfo o)) T p0 q0 (.inl (P, p, q))) (hm : 402 ≤ m + p) (hw : σ p = w) (w4 : w ≠ 4000) (hk : k = 4 ∨ k = 5) {cd : Int32} (hcd : ∀ x, cd.toInt = encm (k, x)) :
    ok ((m_tellsOp (madv s) cd 0).bind fun q2 => (f q2.1).bind fun s3 => gd (inb q2.2 800) (some (wI s3 54 0 (ix q2.2) (rI s3 10 0 24)))) (fun s' => LM σ pl T o (wfB (nfo o)) s0 p0 q0 n R0 (lj σ w k sub) s' ∧ mes s' < mes s) := by
  have T4 := K.1
  obtain ⟨g1, g2, g3, g4, g5, g6⟩ := GR_l.mp hG
  have hp1 := pT K.2.1 g3 (by omega)
  have hS1 := MR_adv hS (by omega)
  have ms := mes_g hS.1 (by omega)
  obtain ⟨m', rfl⟩ : ∃ m', m = m' + 1 := ⟨m - 1, by omega⟩
  rw [lj_s, if_pos hw] at hR
  have gs := hg (p + 1) q hp1 g5
  have hl : n + P.length < 450 := by omega
  rw [m_tell_y hS1.1 (by omega)]
  simp only [Option.bind_some, gd_t (inb_nI (show n + P.length < 1000000 by omega) (show n + P.length < 800 by omega)), ix_nI (show n + P.length < 1000000 by omega)]
  have X1 := MS_op (c := cd) (w := 0) hS1.1
  refine ok_bind (ok_mono (hf.1 _ (p + 1) q (n + P.length + 1) X1 hp1 g5 (by omega)) (fun s3 hx => ?_))
  cases hr : sub (p + 1) q with
  | inr e =>
    rw [hr] at hx hR
    have hB : BM pl (wI s3 54 0 (n + P.length) (rI s3 10 0 24)) e := BM_w hx (by omega)
    exact ok_some ⟨.inl ⟨e, hR, hB⟩, by rw [mes_b K hB, ms]; omega⟩
  | inl y =>
    obtain ⟨Q, p', q'⟩ := y
    rw [hr] at hx hR gs
    obtain ⟨r1, r2, r3⟩ := RM_l.mp hx
    obtain ⟨k1, k2, k3, k4, k5, k6⟩ := GR_l.mp gs
    obtain ⟨a1, a2, a3⟩ := hS1
    have e24 : rI s3 10 0 24 = nI (n + P.length + 1 + Q.length) := r1.2.2.2.2.2.2.1
    have rr : MR σ pl T o s0 (wI s3 54 0 (n + P.length) (rI s3 10 0 24)) n (P ++ (k, Q.length) :: Q) p' q' := by
      obtain ⟨t1, t2, t3, t4, t5, t6, t7, t8⟩ := r1
      refine ⟨⟨fun j hj => ?_, ?_, ?_, ?_, ?_, ?_, ?_, ?_⟩, fun ho => EncM_app (EncM_k (fun i _ hi => ?_) (a2 ho)) ⟨?_, fun x => ?_, fun _ => ?_, EncM_k (fun i hi _ => ?_) (r2 ho)⟩, fun c hc => ?_⟩
      · rw [rI_ne (by omega), rI_ne (by omega), rI_ne (by omega)]; exact t1 j hj
      · rw [rI_ne (by omega)]; exact t2
      · rw [rI_ne (by omega)]; exact t3
      · rw [rI_ne (by omega)]; exact t4
      · rw [rI_ne (by omega)]; exact t5
      · rw [rI_ne (by omega)]; exact t6
      · rw [rI_ne (by omega), t7]; congr 1; simp only [List.length_append, List.length_cons]; omega
      · rw [rI_ne (by omega)]; exact t8
      · have q1 := r3 i (by omega)
        refine ⟨?_, ?_⟩
        · show rI (wI s3 54 0 (n + P.length) _) 53 0 i = rI (madv s) 53 0 i
          rw [rI_ne (by omega), q1.1, mop_r (by omega)]
        · show rI (wI s3 54 0 (n + P.length) _) 54 0 i = rI (madv s) 54 0 i
          rw [rI_ne (by omega), q1.2, mop_r (by omega)]
      · show (rI (wI s3 54 0 (n + P.length) _) 53 0 (n + P.length)).toInt = _
        rw [rI_ne (by omega), (r3 _ (by omega)).1, mop_c]; exact hcd _
      · simp only at x; omega
      · show (rI (wI s3 54 0 (n + P.length) _) 54 0 (n + P.length)).toInt = _
        rw [rI_eq rfl, e24, nI_ti (by omega)]; omega
      · refine ⟨?_, ?_⟩
        · show rI (wI s3 54 0 (n + P.length) _) 53 0 i = rI s3 53 0 i
          rw [rI_ne (by omega)]
        · show rI (wI s3 54 0 (n + P.length) _) 54 0 i = rI s3 54 0 i
          rw [rI_ne (by omega)]
      · have q1 := r3 c (by omega)
        rw [rI_ne (by omega), rI_ne (by omega), q1.1, q1.2, mop_r (by omega), mop_r (by omega)]; exact a3 c hc
    refine ok_some ⟨.inr ⟨m', P ++ (k, Q.length) :: Q, p', q', by rw [hR, pb_l], rr, GR_l.mpr ⟨wfB_j hk g1 k1, ?_, k3, ?_, k5, ?_⟩, by omega⟩, by rw [mes_g rr.1 (by omega), ms]; omega⟩
    · simp only [List.length_append, List.length_cons]; omega
    · rw [pushes_app]
      have : pushes ((k, Q.length) :: Q) = pushes Q := by
        show (if k = 1 ∨ k = 2 then 1 else 0) + pushes Q = pushes Q
        rw [if_neg (by omega)]; omega
      omega
    · simp only [List.length_append]; omega
theorem m_both (K : TK σ pl T) {rt : Sg → Int32 → Option Sg} {D : Int32} {plain : Nat → Nat → PR} (hf : SM σ pl T o (fun s => m_readPlain rt s D) plain) (hg : ∀ p q, p ≤ T → q ≤ 50 → GR (wfB (nfo o)) T p q (plain p q)) : SM σ pl T o (fun s => m_readBoth rt s D) (pBothW σ plain) := by
  have fb : ∀ s e, BM pl s e → ∀ n, m_readBoth_b5 rt (n + 1) s D = some s := by
    intro s e h n
    show m_readBoth_b5_G _ _ _ _ s D = _
    unfold m_readBoth_b5_G
    rw [m_take_b K h]
    simp only [Option.bind_some]
    rw [gif_t trivial]
  refine ⟨fun s p q n h hp hq hn => ?_, fun s e h => ?_⟩
  · have T4 := K.1
    show ok (m_readBoth rt s D) (RM σ pl T o s n (pBothW σ plain p q))
    unfold m_readBoth m_readBoth_G pBothW
    refine ok_bind (ok_mono (hf.1 s p q n h hp hq hn) (fun x hx => ?_))
    have gs := hg p q hp hq
    have st : LM σ pl T o (wfB (nfo o)) s p q n (pb (plain p q) (fun P p' q' => lj σ 3011 4 plain 402 P p' q')) (lj σ 3011 4 plain) x := by
      cases hr : plain p q with
      | inr e => rw [hr] at hx; exact .inl ⟨e, rfl, hx⟩
      | inl y =>
        obtain ⟨P, p', q'⟩ := y
        rw [hr] at hx gs
        exact .inr ⟨402, P, p', q', rfl, hx, gs, by omega⟩
    generalize pb (plain p q) (fun P p' q' => lj σ 3011 4 plain 402 P p' q') = R0 at st ⊢
    refine ok_loop (K := fun n (y : Sg) => m_readBoth_b5 rt n y D) (I := LM σ pl T o (wfB (nfo o)) s p q n R0 (lj σ 3011 4 plain)) (μ := mes) ?_ FU x st (by have := mes_le x; show _ < 20000; omega)
    rintro fu s2 hI ih
    rcases hI with ⟨e, hR, hB⟩ | ⟨m, P, p', q', hR, hS, hG, hm⟩
    · rw [fb s2 e hB fu, hR]; exact ok_some hB
    · have p'T := (GR_l.mp hG).2.2.1
      show ok (m_readBoth_b5_G _ _ _ _ s2 D) _
      unfold m_readBoth_b5_G
      by_cases c : σ p' = 3011
      · rw [m_take_y K hS.1 p'T (m := 6) li_6 ((mc_w (by omega)).mpr (by omega))]
        simp only [Option.bind_some]
        rw [gif_f (by decide)]
        obtain ⟨s4, h4, hL, hm4⟩ := m_nextj K hf hg hn hR hS hG hm c (by omega) (.inl rfl) (cd := 6) (fun x => rfl)
        obtain ⟨q2, hq2, h5⟩ := Option.bind_eq_some_iff.mp h4
        obtain ⟨s3, hs3, h6⟩ := Option.bind_eq_some_iff.mp h5
        have b8 : inb q2.2 800 := by
          apply Classical.byContradiction
          intro nb
          rw [show gd (inb q2.2 800) (some (wI s3 54 0 (ix q2.2) (rI s3 10 0 24))) = none from if_neg nb] at h6
          exact absurd h6 (by simp)
        rw [gd_t b8, Option.some.injEq] at h6
        rw [hq2]
        simp only [Option.bind_some]
        rw [hs3]
        simp only [Option.bind_some, gd_t b8]
        rw [h6]
        exact ih s4 hL hm4
      · rw [m_take_n K hS.1 p'T (m := 6) li_6 (fun x => c (by have := (mc_w (by omega)).mp x; omega))]
        simp only [Option.bind_some]
        rw [gif_t trivial]
        obtain ⟨m', rfl⟩ : ∃ m', m = m' + 1 := ⟨m - 1, by omega⟩
        rw [lj_s, if_neg c] at hR
        rw [hR]; exact ok_some hS
  · show m_readBoth rt s D = some s
    unfold m_readBoth m_readBoth_G
    have : m_readPlain rt s D = some s := hf.2 s e h
    rw [this]
    rw [show FU = 19999 + 1 from rfl]; exact fb s e h 19999
theorem m_testW (K : TK σ pl T) {rt : Sg → Int32 → Option Sg} {D : Int32} {both : Nat → Nat → PR} (hf : SM σ pl T o (fun s => m_readBoth rt s D) both) (hg : ∀ p q, p ≤ T → q ≤ 50 → GR (wfB (nfo o)) T p q (both p q)) : SM σ pl T o (fun s => m_readTest_G (m_readTest_b5 rt FU) (m_readBoth rt) s D) (fun p q => pb (both p q) (fun P p' q' => lj σ 3010 5 both 402 P p' q')) := by
  have fb : ∀ s e, BM pl s e → ∀ n, m_readTest_b5 rt (n + 1) s D = some s := by
    intro s e h n
    show m_readTest_b5_G _ _ _ _ s D = _
    unfold m_readTest_b5_G
    rw [m_take_b K h]
    simp only [Option.bind_some]
    rw [gif_t trivial]
  refine ⟨fun s p q n h hp hq hn => ?_, fun s e h => ?_⟩
  · have T4 := K.1
    show ok (m_readTest_G _ _ s D) (RM σ pl T o s n (pb (both p q) (fun P p' q' => lj σ 3010 5 both 402 P p' q')))
    unfold m_readTest_G
    refine ok_bind (ok_mono (hf.1 s p q n h hp hq hn) (fun x hx => ?_))
    have gs := hg p q hp hq
    have st : LM σ pl T o (wfB (nfo o)) s p q n (pb (both p q) (fun P p' q' => lj σ 3010 5 both 402 P p' q')) (lj σ 3010 5 both) x := by
      cases hr : both p q with
      | inr e => rw [hr] at hx; exact .inl ⟨e, rfl, hx⟩
      | inl y =>
        obtain ⟨P, p', q'⟩ := y
        rw [hr] at hx gs
        exact .inr ⟨402, P, p', q', rfl, hx, gs, by omega⟩
    generalize pb (both p q) (fun P p' q' => lj σ 3010 5 both 402 P p' q') = R0 at st ⊢
    refine ok_loop (K := fun n (y : Sg) => m_readTest_b5 rt n y D) (I := LM σ pl T o (wfB (nfo o)) s p q n R0 (lj σ 3010 5 both)) (μ := mes) ?_ FU x st (by have := mes_le x; show _ < 20000; omega)
    rintro fu s2 hI ih
    rcases hI with ⟨e, hR, hB⟩ | ⟨m, P, p', q', hR, hS, hG, hm⟩
    · rw [fb s2 e hB fu, hR]; exact ok_some hB
    · have p'T := (GR_l.mp hG).2.2.1
      show ok (m_readTest_b5_G _ _ _ _ s2 D) _
      unfold m_readTest_b5_G
      by_cases c : σ p' = 3010
      · rw [m_take_y K hS.1 p'T (m := 5) li_5 ((mc_w (by omega)).mpr (by omega))]
        simp only [Option.bind_some]
        rw [gif_f (by decide)]
        obtain ⟨s4, h4, hL, hm4⟩ := m_nextj K hf hg hn hR hS hG hm c (by omega) (.inr rfl) (cd := 5) (fun x => rfl)
        obtain ⟨q2, hq2, h5⟩ := Option.bind_eq_some_iff.mp h4
        obtain ⟨s3, hs3, h6⟩ := Option.bind_eq_some_iff.mp h5
        have b8 : inb q2.2 800 := by
          apply Classical.byContradiction
          intro nb
          rw [show gd (inb q2.2 800) (some (wI s3 54 0 (ix q2.2) (rI s3 10 0 24))) = none from if_neg nb] at h6
          exact absurd h6 (by simp)
        rw [gd_t b8, Option.some.injEq] at h6
        rw [hq2]
        simp only [Option.bind_some]
        rw [hs3]
        simp only [Option.bind_some, gd_t b8]
        rw [h6]
        exact ih s4 hL hm4
      · rw [m_take_n K hS.1 p'T (m := 5) li_5 (fun x => c (by have := (mc_w (by omega)).mp x; omega))]
        simp only [Option.bind_some]
        rw [gif_t trivial]
        obtain ⟨m', rfl⟩ : ∃ m', m = m' + 1 := ⟨m - 1, by omega⟩
        rw [lj_s, if_neg c] at hR
        rw [hR]; exact ok_some hS
  · show m_readTest_G _ _ s D = some s
    unfold m_readTest_G
    have : m_readBoth rt s D = some s := hf.2 s e h
    rw [this]
    rw [show FU = 19999 + 1 from rfl]; exact fb s e h 19999
theorem m_test (K : TK σ pl T) : ∀ (d dep k : Nat), dep + k = 8 → k + 1 ≤ d → SM σ pl T o (fun s => m_readTest d s (nI dep)) (pTest σ o k) := by
  intro d
  induction d with
  | zero => intro dep k _ h; omega
  | succ d ih =>
    intro dep k hdk hd
    have hs := m_sum (o := o) K DR dep k hdk (by show _ ≤ 10; omega)
    have h1 := m_plain (o := o) (rt := m_readTest d) K hdk (fun j hj => ih (dep + 1) j (by omega) (by omega)) hs
    have g1 := pPlain_g (o := o) K.2.1 k
    have h2 := m_both K h1 g1
    exact m_testW K h2 (pBothW_g K.2.1 g1)
theorem m_sum0 (K : TK σ pl T) : SM σ pl T o (fun s => m_readSum DR s 0) (pSum σ o 8) := m_sum K DR 0 8 rfl (by show _ ≤ 10; omega)
theorem m_test0 (K : TK σ pl T) : SM σ pl T o (fun s => m_readTest DR s 0) (pTest σ o 8) := m_test K DR 0 8 rfl (by show _ ≤ 10; omega)
