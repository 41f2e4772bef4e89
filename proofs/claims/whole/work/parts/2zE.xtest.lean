/-! the class's tests -/
variable {σ pl : Nat → Nat} {T : Nat} {o : Bool}
theorem x_cmp (K : TK σ pl T) {rb : Sg → Int32 → Option (Sg × Int32)} {D : Int32} {k : Nat} (hf : SX σ pl T o (fun s => x6_readSum rb s D) (pSum σ o k)) : SX σ pl T o (fun s => x6_readComparison rb s D) (pCmp σ o k) := by
  intro s p q z h hp hq hz
  have T4 := K.1
  show ok (x6_readComparison rb s D) _
  unfold x6_readComparison x6_readComparison_G
  refine ok_bind (ok_mono (hf s p q z h hp hq hz) (fun x hx => ?_))
  have gs := pSum_g (o := o) K.2.1 k hp hq
  unfold pCmp
  simp only [gdB0, gdB1]
  cases hr : pSum σ o k p q with
  | inr e =>
    rw [hr] at hx
    rw [gif_t hx.1, pb_r]
    exact ok_some ⟨rfl, hx.2⟩
  | inl y =>
    obtain ⟨P, p', q'⟩ := y
    rw [hr] at hx gs
    obtain ⟨x1, x2⟩ := RX_l.mp hx
    obtain ⟨g1, g2, g3, g4, g5, g6⟩ := GR_l.mp gs
    rw [gif_f (by rw [x1]; decide), pb_l, xs_sign K x2.1 g3]
    simp only [Option.bind_some]
    rw [x_instr _ (K.2.2.1 p')]
    simp only [Option.bind_some]
    by_cases c : opC (σ p') = 0
    · have ni := ins_C c
      rw [if_pos c]
      show ok (gif (ins (σ p') < 12) _ _) _
      rw [gif_t (by rw [ti_lt, li_12]; exact ni), xs_fail K x2.1 g3]
      simp only [Option.bind_some, gdB0]
      exact ok_some ⟨rfl, fx_fail x2.1⟩
    · have w := (opC_ok (σ p')).resolve_left c
      rw [if_neg c, x_ins_C c, gif_f (by rw [ti_lt, nI_ti (by omega), li_12]; omega)]
      have hp1 := pT K.2.1 g3 w.2.2
      have r1 := RS_adv x2 (by omega)
      show ok ((x6_readSum rb (adv x.1) D).bind fun q6 => (x8_emit q6.1 0 (nI (opC (σ p'))) 0).bind fun s7 => gd (isB q6.2) (some (s7, q6.2))) _
      refine ok_bind (ok_mono (hf (adv x.1) (p' + 1) q' (z + P.length) r1.1 hp1 g5 (by omega)) (fun y hy => ?_))
      have gs2 := pSum_g (o := o) K.2.1 k hp1 g5
      simp only [gd_t (RX_B hy)]
      cases hr2 : pSum σ o k (p' + 1) q' with
      | inr e =>
        rw [hr2] at hy
        obtain ⟨s', e1, e2⟩ := em_f hy.2 (nI (opC (σ p'))) 0
        rw [e1, pb_r]
        exact ok_some ⟨hy.1, e2⟩
      | inl y' =>
        obtain ⟨Q, p2, q2⟩ := y'
        rw [hr2] at hy gs2
        obtain ⟨y1, y2⟩ := RX_l.mp hy
        obtain ⟨k1, k2, k3, k4, k5, k6⟩ := GR_l.mp gs2
        have ra := RS_app r1 y2
        obtain ⟨s', e1, e2⟩ := RS_emit ra (by rw [List.length_append]; omega) (a := opC (σ p')) (b := 0) (by omega) (by omega) (.inr ⟨rfl, by omega, by omega⟩) (fun _ _ => by omega)
        rw [show (0 : Int32) = nI 0 from rfl, e1, pb_l]
        exact ok_some ⟨y1, e2⟩
theorem x_pos (K : TK σ pl T) {rb : Sg → Int32 → Option (Sg × Int32)} {D : Int32} {k : Nat} {brk : Nat → Nat → PR} (hb : ∀ s p q z, XS s σ pl T o p q z → p ≤ T → q ≤ 50 → z ≤ p + 30 → σ p = 2040 → ok (rb s D) (RX σ pl T o s z (brk p q))) (hbg : ∀ p q, p ≤ T → q ≤ 50 → σ p = 2040 → GR (wfB (nfo o)) T p q (brk p q))
    (hc : SX σ pl T o (fun s => x6_readComparison rb s D) (pCmp σ o k)) {s0 s : Sg} {p q z : Nat} (hS : RS σ pl T o s0 s z [] p q) (hp : p ≤ T) (hq : q ≤ 50) (hz : z ≤ p + 30) (b : Bool) : ok (x6_readPlain_b37 rb s D (oI b)) (RX σ pl T o s0 z (pPos σ o brk k p q b)) := by
  have T4 := K.1
  have h := hS.1
  simp only [List.length_nil, Nat.add_zero] at h
  unfold x6_readPlain_b37 x6_readPlain_b37_G pPos
  rw [xs_sign K h hp]
  simp only [Option.bind_some]
  have fin : ∀ (r : PR) (x : Sg × Int32), GR (wfB (nfo o)) T p q r → RX σ pl T o s z r x → ok (gif (oI b = 0) (gd (isB x.2) (some (x.1, x.2))) ((x8_emit x.1 0 3 0).bind fun s3 => gd (isB x.2) (some (s3, x.2)))) (RX σ pl T o s0 z (pb r (fun P p' q' => .inl (P ++ tn b, p', q')))) := by
    intro r x hg hx
    rw [gd_t (RX_B hx)]
    cases r with
    | inr e =>
      rw [pb_r]
      refine ok_gif (fun _ => ok_some hx) (fun _ => ?_)
      obtain ⟨s', e1, e2⟩ := em_f hx.2 3 0
      rw [e1]
      simp only [Option.bind_some, gd_t (RX_B hx)]
      exact ok_some ⟨hx.1, e2⟩
    | inl y =>
      obtain ⟨P, p', q'⟩ := y
      obtain ⟨x1, x2⟩ := RX_l.mp hx
      obtain ⟨g1, g2, g3, g4, g5, g6⟩ := GR_l.mp hg
      have ra : RS σ pl T o s0 x.1 z P p' q' := RS_app hS (by simpa using x2)
      rw [pb_l]
      cases b with
      | false =>
        rw [gif_t (show oI false = 0 from rfl)]
        refine ok_some ⟨x1, ?_⟩
        show RS σ pl T o s0 x.1 z (P ++ []) p' q'
        rw [List.append_nil]; exact ra
      | true =>
        rw [gif_f (by decide)]
        obtain ⟨s', e1, e2⟩ := RS_emit ra (by omega) (a := 3) (b := 0) (by omega) (by omega) (.inr ⟨rfl, by omega, by omega⟩) (fun _ _ => by omega)
        rw [show (3 : Int32) = nI 3 from rfl, show (0 : Int32) = nI 0 from rfl, e1]
        simp only [Option.bind_some, gd_t (RX_B hx)]
        exact ok_some ⟨x1, e2⟩
  by_cases c : σ p = 2040
  · rw [gif_t ((sg_eq K li_2040).mpr c), if_pos c]
    exact ok_bind (ok_mono (hb s p q z h hp hq hz c) (fun x hx => fin _ x (hbg p q hp hq c) hx))
  · rw [gif_f (fun x => c ((sg_eq K li_2040).mp x)), if_neg c]
    exact ok_bind (ok_mono (hc s p q z h hp hq hz) (fun x hx => fin _ x (pCmp_g K.2.1 k hp hq) hx))
theorem x_plain (K : TK σ pl T) {rb : Sg → Int32 → Option (Sg × Int32)} {D : Int32} {k : Nat} {brk : Nat → Nat → PR} (hb : ∀ s p q z, XS s σ pl T o p q z → p ≤ T → q ≤ 50 → z ≤ p + 30 → σ p = 2040 → ok (rb s D) (RX σ pl T o s z (brk p q))) (hbg : ∀ p q, p ≤ T → q ≤ 50 → σ p = 2040 → GR (wfB (nfo o)) T p q (brk p q))
    (hc : SX σ pl T o (fun s => x6_readComparison rb s D) (pCmp σ o k)) : SX σ pl T o (fun s => x6_readPlain rb s D) (pPlainW σ o brk k) := by
  intro s p q z h hp hq hz
  have T4 := K.1
  show ok (x6_readPlain rb s D) (RX σ pl T o s z (pPos σ o brk k (nots σ 402 p false).1 q (nots σ 402 p false).2))
  generalize hN : nots σ 402 p false = N0
  unfold x6_readPlain x6_readPlain_G
  refine ok_loop (K := fun n (y : Sg × Int32 × Int32) => x6_readPlain_b4 rb n y.1 D y.2.1 y.2.2) (I := fun y => ∃ i m p' b, y.2.2.toInt = (i : Nat) ∧ i ≤ 400 ∧ nots σ m p' b = N0 ∧ RS σ pl T o s y.1 z [] p' q ∧ y.2.1 = oI b ∧ 402 ≤ m + p' ∧ i ≤ p' ∧ p ≤ p' ∧ p' ≤ T)
    (μ := fun y => 401 - y.2.2.toInt.toNat) ?_ FU (s, 0, 0) ⟨0, 402, p, false, rfl, by omega, hN, RS_0 h, rfl, by omega, by omega, by omega, hp⟩ (by show _ < 20000; omega)
  rintro n ⟨s2, l2, l3⟩ ⟨i, m, p', b, i1, i2, hm, hS, hb', hn, hip, hpp, hpT⟩ ih
  simp only at i1 hS hb' ih
  subst hb'
  show ok (x6_readPlain_b4_G _ _ _ s2 D (oI b) l3) _
  unfold x6_readPlain_b4_G
  obtain ⟨m', rfl⟩ : ∃ m', m = m' + 1 := ⟨m - 1, by omega⟩
  have h2 := hS.1
  simp only [List.length_nil, Nat.add_zero] at h2
  have fin : σ p' ≠ 3012 → ok (x6_readPlain_b37 rb s2 D (oI b)) (RX σ pl T o s z (pPos σ o brk k N0.1 q N0.2)) := by
    intro c
    rw [nots_s, if_neg c] at hm
    subst hm
    exact x_pos K hb hbg hc hS hpT hq (by omega) b
  refine ok_gif (fun c => ?_) (fun c => ?_)
  · rw [ti_lt, i1, li_400] at c
    by_cases c2 : σ p' = 3012
    · rw [xs_take_y K h2 hpT li_3012 c2]
      simp only [Option.bind_some]
      rw [gif_f (by decide)]
      rw [nots_s, if_pos c2] at hm
      have hp1 := pT K.2.1 hpT (by omega)
      have t1 : (l3 + 1).toInt = (i + 1 : Nat) := by rw [ti_add (by rw [i1, li_1]; omega) (by rw [i1, li_1]; omega), i1, li_1]; omega
      have r1 := RS_adv hS (by omega)
      cases b with
      | false =>
        rw [gif_t (show oI false = 0 from rfl)]
        exact ih (adv s2, 1, l3 + 1) ⟨i + 1, m', p' + 1, true, t1, by omega, hm, r1, rfl, by omega, by omega, by omega, hp1⟩ (by simp only [t1, i1]; omega)
      | true =>
        rw [gif_f (by decide)]
        exact ih (adv s2, 0, l3 + 1) ⟨i + 1, m', p' + 1, false, t1, by omega, hm, r1, rfl, by omega, by omega, by omega, hp1⟩ (by simp only [t1, i1]; omega)
    · rw [xs_take_n K h2 hpT li_3012 c2]
      simp only [Option.bind_some]
      rw [gif_t trivial]
      exact fin c2
  · rw [ti_lt, i1, li_400] at c
    refine fin ?_
    have : p' = T := by omega
    rw [this, K.2.1]; omega
theorem aim_v {k x : Nat} (hk : k ≤ 14) (hx : x < 4096) : (nI (4096 * k) &&& (-4096)) ||| (nI x &&& 4095) = nI (4096 * k + x) := by
  have m4 : ∀ i, i < 32 → bt (-4096) i = decide (12 ≤ i) := by decide +kernel
  apply b_ext
  intro i hi
  rw [b_or, b_and, b_and, b_4095, m4 i hi, bt_nI _ hi, bt_nI _ hi, bt_nI _ hi]
  rw [show 4096 * k + x = 2 ^ 12 * k + x from rfl, Nat.testBit_two_pow_mul_add k (show x < 2 ^ 12 by omega)]
  rw [show 4096 * k = 2 ^ 12 * k + 0 from rfl, Nat.testBit_two_pow_mul_add k (show 0 < 2 ^ 12 by omega)]
  by_cases c : i < 12
  · rw [if_pos c, if_pos c]
    have : decide (12 ≤ i) = false := by simp; omega
    rw [this]; simp [c]
  · rw [if_neg c, if_neg c]
    have : decide (12 ≤ i) = true := by simp; omega
    rw [this]; simp [c]
/-- after 'or', 'and': a skip, the next test, the skip aimed behind it -/
theorem x_nextj {s0 s : Sg} {p0 q0 z i w k : Nat} {R0 : PR} {sub : Nat → Nat → PR} {f : Sg → Option (Sg × Int32)} (K : TK σ pl T) (hf : SX σ pl T o f sub) (hg : ∀ p q, p ≤ T → q ≤ 50 → GR (wfB (nfo o)) T p q (sub p q)) (hz0 : z ≤ p0 + 30)
    {n : Nat} {P : List Ins} {p q : Nat} (hR : R0 = lj σ w k sub n P p q) (hS : RS σ pl T o s0 s z P p q) (hG : GR (wfB (nfo o)) T p0 q0 (.inl (P, p, q))) (hn : 402 ≤ n + p) (hi : 2 * i ≤ p) (hw : σ p = w) (w4 : w ≠ 4000) (hk : k = 4 ∨ k = 5) :
    ok ((x8_emit (adv s) 0 (nI k) 0).bind fun s2 => (f s2).bind fun x => (x8_aim x.1 0 (rI (adv s) 8 0 7)).bind fun s4 => some (s4, x.2)) (fun y => ∀ l3 : Int32, l3.toInt = (i + 1 : Nat) → i + 1 ≤ 400 → LI σ pl T o (wfB (nfo o)) s0 p0 q0 z R0 (lj σ w k sub) y.1 y.2 l3) := by
  have T4 := K.1
  obtain ⟨g1, g2, g3, g4, g5, g6⟩ := GR_l.mp hG
  have hp1 := pT K.2.1 g3 (by omega)
  have hS1 := RS_adv hS (by omega)
  obtain ⟨m, rfl⟩ : ∃ m, n = m + 1 := ⟨n - 1, by omega⟩
  rw [lj_s, if_pos hw] at hR
  have gs := hg (p + 1) q hp1 g5
  have e8 : rI (adv s) 8 0 7 = nI (z + P.length) := hS1.1.2.2.2.2.1
  have hzl : z + P.length < 450 := by omega
  rw [e8, show (0 : Int32) = nI 0 from rfl, xs_emit hS1.1 (by omega) (by omega) (by omega)]
  simp only [Option.bind_some, Nat.add_zero]
  generalize hs1 : wI (wI (adv s) 36 0 (z + P.length) (nI (4096 * k))) 8 0 7 (nI (z + P.length + 1)) = s1
  have X1 : XS s1 σ pl T o (p + 1) q (z + P.length + 1) := by rw [← hs1]; exact XS_w hS1.1
  have c1 : rI s1 36 0 (z + P.length) = nI (4096 * k) := by rw [← hs1, rI_ne (by omega), rI_eq rfl]
  have c2 : ∀ c, c < z + P.length → rI s1 36 0 c = rI (adv s) 36 0 c := fun c hc => by rw [← hs1, rI_ne (by omega), rI_ne (by omega)]
  have c3 : rI s1 6 0 6 = rI (adv s) 6 0 6 := by rw [← hs1, rI_ne (by omega), rI_ne (by omega)]
  have c4 : rI s1 8 0 8 = rI (adv s) 8 0 8 := by rw [← hs1, rI_ne (by omega), rI_ne (by omega)]
  refine ok_bind (ok_mono (hf s1 (p + 1) q (z + P.length + 1) X1 hp1 g5 (by omega)) (fun x hx => ?_))
  cases hr : sub (p + 1) q with
  | inr e =>
    rw [hr] at hx hR
    obtain ⟨x1, x2⟩ := RX_r.mp hx
    obtain ⟨s', e1, e2⟩ := aim_f x2 (nI (z + P.length))
    rw [e1]
    exact ok_some (fun l3 h3 h4 => ⟨i + 1, h3, h4, .inl ⟨x1, e, hR, e2⟩⟩)
  | inl y =>
    obtain ⟨Q, p', q'⟩ := y
    rw [hr] at hx hR gs
    obtain ⟨x1, r1, r2, r3, r4, r5⟩ := RX_l.mp hx
    obtain ⟨k1, k2, k3, k4, k5, k6⟩ := GR_l.mp gs
    obtain ⟨a1, a2, a3, a4, a5⟩ := hS1
    have cz : rI x.1 36 0 (z + P.length) = nI (4096 * k) := by rw [r3 _ (by omega), c1]
    have ea : x8_aim x.1 0 (nI (z + P.length)) = some (wI x.1 36 0 (z + P.length) (nI (4096 * k + (z + P.length + 1 + Q.length)))) := by
      unfold x8_aim x8_aim_G
      rw [r1.2.2.2.2.2.1, r1.2.2.2.2.1, gif_f (by rw [ti_lt, nI_ti (by omega), li_0]; omega), gif_t (by rw [ti_lt, nI_ti (by omega), ti_ofNat (by omega)]; omega), gd_t (inb_nI (by omega) (by omega)), gd_t (inb_nI (by omega) (by omega)), ix_nI (by omega), cz, aim_v (by omega) (by omega)]
    rw [ea]
    refine ok_some (fun l3 h3 h4 => ⟨i + 1, h3, h4, .inr ⟨x1, m, P ++ (k, Q.length) :: Q, p', q', by rw [hR, pb_l], ?_, GR_l.mpr ⟨wfB_j hk g1 k1, ?_, k3, ?_, k5, ?_⟩, by omega, by omega⟩⟩)
    · obtain ⟨t1, t2, t3, t4, t5, t6, t7⟩ := r1
      refine ⟨⟨fun j hj => ?_, ?_, ?_, ?_, ?_, t6, ?_⟩, EncX_app (EncX_c (fun j _ hj => ?_) a2) ⟨?_, EncX_c (fun j hj _ => ?_) r2⟩, fun c hc => ?_, ?_, fun hf => ?_⟩
      · rw [rI_ne (by omega), rI_ne (by omega)]; exact t1 j hj
      · rw [rI_ne (by omega)]; exact t2
      · rw [rI_ne (by omega)]; exact t3
      · rw [rI_ne (by omega)]; exact t4
      · rw [rI_ne (by omega), t5]; congr 1; simp only [List.length_append, List.length_cons]; omega
      · rw [rI_ne (by omega)]; exact t7
      · show rI (wI x.1 36 0 (z + P.length) _) 36 0 j = rI (adv s) 36 0 j
        rw [rI_ne (by omega), r3 j (by omega), c2 j (by omega)]
      · show (rI (wI x.1 36 0 (z + P.length) _) 36 0 (z + P.length)).toInt = _
        rw [rI_eq rfl, nI_ti (by omega)]
        unfold encx
        simp only []
        rw [if_neg (by omega), if_pos hk]; omega
      · show rI (wI x.1 36 0 (z + P.length) _) 36 0 j = rI x.1 36 0 j
        rw [rI_ne (by omega)]
      · rw [rI_ne (by omega), r3 c (by omega), c2 c (by omega)]; exact a3 c hc
      · rw [rI_ne (by omega), r4, c3]; exact a4
      · rw [rI_ne (by omega)] at hf
        obtain ⟨f1, f2⟩ := r5 hf
        rw [c4] at f1
        obtain ⟨f3, f4⟩ := a5 f1
        refine ⟨f3, fun ho j hj => ?_⟩
        rcases List.mem_append.mp hj with e | e
        · exact f4 ho j e
        · rcases List.mem_cons.mp e with e | e
          · subst e; simp only []; omega
          · exact f2 ho j e
    · simp only [List.length_append, List.length_cons]; omega
    · rw [pushes_app]
      have : pushes ((k, Q.length) :: Q) = pushes Q := by
        show (if k = 1 ∨ k = 2 then 1 else 0) + pushes Q = pushes Q
        rw [if_neg (by omega)]; omega
      omega
    · simp only [List.length_append]; omega
theorem x_both (K : TK σ pl T) {rb : Sg → Int32 → Option (Sg × Int32)} {D : Int32} {plain : Nat → Nat → PR} (hf : SX σ pl T o (fun s => x6_readPlain rb s D) plain) (hg : ∀ p q, p ≤ T → q ≤ 50 → GR (wfB (nfo o)) T p q (plain p q)) : SX σ pl T o (fun s => x6_readBoth rb s D) (pBothW σ plain) := by
  intro s p q z h hp hq hz
  have T4 := K.1
  show ok (x6_readBoth rb s D) (RX σ pl T o s z (pBothW σ plain p q))
  unfold x6_readBoth x6_readBoth_G pBothW
  refine ok_bind (ok_mono (hf s p q z h hp hq hz) (fun x hx => ?_))
  have gs := hg p q hp hq
  have st : LI σ pl T o (wfB (nfo o)) s p q z (pb (plain p q) (fun P p' q' => lj σ 3011 4 plain 402 P p' q')) (lj σ 3011 4 plain) x.1 x.2 0 := by
    refine ⟨0, rfl, by omega, ?_⟩
    cases hr : plain p q with
    | inr e => rw [hr] at hx; exact .inl ⟨hx.1, e, rfl, hx.2⟩
    | inl y =>
      obtain ⟨P, p', q'⟩ := y
      rw [hr] at hx gs
      exact .inr ⟨hx.1, 402, P, p', q', rfl, hx.2, gs, by omega, by omega⟩
  generalize pb (plain p q) (fun P p' q' => lj σ 3011 4 plain 402 P p' q') = R0 at st ⊢
  refine ok_loop (K := fun n (y : Sg × Int32 × Int32) => x6_readBoth_b8 rb n y.1 D y.2.1 y.2.2) (I := fun y => LI σ pl T o (wfB (nfo o)) s p q z R0 (lj σ 3011 4 plain) y.1 y.2.1 y.2.2)
    (μ := fun y => 401 - y.2.2.toInt.toNat) ?_ FU (x.1, x.2, 0) st (by show _ < 20000; omega)
  rintro n ⟨s2, l2, l3⟩ ⟨i, i1, i2, hI⟩ ih
  simp only at i1 hI ih
  show ok (x6_readBoth_b8_G _ _ _ _ _ s2 D l2 l3) _
  unfold x6_readBoth_b8_G
  rcases hI with ⟨rfl, e, hR, hF⟩ | ⟨rfl, m, P, p', q', hR, hS, hG, hn, h2i⟩
  · simp only [gdB0, gif_t]
    have fin : ok (some (s2, (0 : Int32))) (RX σ pl T o s z R0) := ok_some (by rw [hR]; exact ⟨rfl, hF⟩)
    exact ok_gif (fun _ => fin) (fun _ => fin)
  · have p'T := (GR_l.mp hG).2.2.1
    rw [gif_t (by rw [ti_lt, i1, li_400]; omega), gif_f (by decide)]
    by_cases c : σ p' = 3011
    · rw [xs_take_y K hS.1 p'T li_3011 c]
      simp only [Option.bind_some, gdB1]
      rw [gif_f (by decide)]
      obtain ⟨⟨s4, l4⟩, h4, hI4⟩ := x_nextj K hf hg hz hR hS hG hn h2i c (by omega) (.inl rfl)
      have t1 : (l3 + 1).toInt = (i + 1 : Nat) := by rw [ti_add (by rw [i1, li_1]; omega) (by rw [i1, li_1]; omega), i1, li_1]; omega
      have go := ih (s4, l4, l3 + 1) (hI4 (l3 + 1) t1 (by omega)) (by simp only [t1, i1]; omega)
      simp only [] at go
      obtain ⟨u, hu, h5⟩ := Option.bind_eq_some_iff.mp h4
      obtain ⟨y, hy, h6⟩ := Option.bind_eq_some_iff.mp h5
      obtain ⟨s5, hs5, hs6⟩ := Option.bind_eq_some_iff.mp h6
      simp only [Option.some.injEq, Prod.mk.injEq] at hs6
      rw [show (4 : Int32) = nI 4 from rfl, hu]
      simp only [Option.bind_some]
      rw [hy]
      simp only [Option.bind_some]
      rw [hs5]
      simp only [Option.bind_some]
      rw [hs6.1, hs6.2]
      exact go
    · rw [xs_take_n K hS.1 p'T li_3011 c]
      simp only [Option.bind_some, gdB1]
      rw [gif_t trivial]
      obtain ⟨m', rfl⟩ : ∃ m', m = m' + 1 := ⟨m - 1, by omega⟩
      rw [lj_s, if_neg c] at hR
      exact ok_some (by rw [hR]; exact ⟨rfl, hS⟩)
theorem x_test (K : TK σ pl T) {rb : Sg → Int32 → Option (Sg × Int32)} {D : Int32} {both : Nat → Nat → PR} (hf : SX σ pl T o (fun s => x6_readBoth rb s D) both) (hg : ∀ p q, p ≤ T → q ≤ 50 → GR (wfB (nfo o)) T p q (both p q)) : SX σ pl T o (fun s => x6_readTest rb s D) (fun p q => pb (both p q) (fun P p' q' => lj σ 3010 5 both 402 P p' q')) := by
  intro s p q z h hp hq hz
  have T4 := K.1
  show ok (x6_readTest rb s D) (RX σ pl T o s z (pb (both p q) (fun P p' q' => lj σ 3010 5 both 402 P p' q')))
  unfold x6_readTest x6_readTest_G
  refine ok_bind (ok_mono (hf s p q z h hp hq hz) (fun x hx => ?_))
  have gs := hg p q hp hq
  have st : LI σ pl T o (wfB (nfo o)) s p q z (pb (both p q) (fun P p' q' => lj σ 3010 5 both 402 P p' q')) (lj σ 3010 5 both) x.1 x.2 0 := by
    refine ⟨0, rfl, by omega, ?_⟩
    cases hr : both p q with
    | inr e => rw [hr] at hx; exact .inl ⟨hx.1, e, rfl, hx.2⟩
    | inl y =>
      obtain ⟨P, p', q'⟩ := y
      rw [hr] at hx gs
      exact .inr ⟨hx.1, 402, P, p', q', rfl, hx.2, gs, by omega, by omega⟩
  generalize pb (both p q) (fun P p' q' => lj σ 3010 5 both 402 P p' q') = R0 at st ⊢
  refine ok_loop (K := fun n (y : Sg × Int32 × Int32) => x6_readTest_b8 rb n y.1 D y.2.1 y.2.2) (I := fun y => LI σ pl T o (wfB (nfo o)) s p q z R0 (lj σ 3010 5 both) y.1 y.2.1 y.2.2)
    (μ := fun y => 401 - y.2.2.toInt.toNat) ?_ FU (x.1, x.2, 0) st (by show _ < 20000; omega)
  rintro n ⟨s2, l2, l3⟩ ⟨i, i1, i2, hI⟩ ih
  simp only at i1 hI ih
  show ok (x6_readTest_b8_G _ _ _ _ _ s2 D l2 l3) _
  unfold x6_readTest_b8_G
  rcases hI with ⟨rfl, e, hR, hF⟩ | ⟨rfl, m, P, p', q', hR, hS, hG, hn, h2i⟩
  · simp only [gdB0, gif_t]
    have fin : ok (some (s2, (0 : Int32))) (RX σ pl T o s z R0) := ok_some (by rw [hR]; exact ⟨rfl, hF⟩)
    exact ok_gif (fun _ => fin) (fun _ => fin)
  · have p'T := (GR_l.mp hG).2.2.1
    rw [gif_t (by rw [ti_lt, i1, li_400]; omega), gif_f (by decide)]
    by_cases c : σ p' = 3010
    · rw [xs_take_y K hS.1 p'T li_3010 c]
      simp only [Option.bind_some, gdB1]
      rw [gif_f (by decide)]
      obtain ⟨⟨s4, l4⟩, h4, hI4⟩ := x_nextj K hf hg hz hR hS hG hn h2i c (by omega) (.inr rfl)
      have t1 : (l3 + 1).toInt = (i + 1 : Nat) := by rw [ti_add (by rw [i1, li_1]; omega) (by rw [i1, li_1]; omega), i1, li_1]; omega
      have go := ih (s4, l4, l3 + 1) (hI4 (l3 + 1) t1 (by omega)) (by simp only [t1, i1]; omega)
      simp only [] at go
      obtain ⟨u, hu, h5⟩ := Option.bind_eq_some_iff.mp h4
      obtain ⟨y, hy, h6⟩ := Option.bind_eq_some_iff.mp h5
      obtain ⟨s5, hs5, hs6⟩ := Option.bind_eq_some_iff.mp h6
      simp only [Option.some.injEq, Prod.mk.injEq] at hs6
      rw [show (5 : Int32) = nI 5 from rfl, hu]
      simp only [Option.bind_some]
      rw [hy]
      simp only [Option.bind_some]
      rw [hs5]
      simp only [Option.bind_some]
      rw [hs6.1, hs6.2]
      exact go
    · rw [xs_take_n K hS.1 p'T li_3010 c]
      simp only [Option.bind_some, gdB1]
      rw [gif_t trivial]
      obtain ⟨m', rfl⟩ : ∃ m', m = m' + 1 := ⟨m - 1, by omega⟩
      rw [lj_s, if_neg c] at hR
      exact ok_some (by rw [hR]; exact ⟨rfl, hS⟩)
def brkP (σ : Nat → Nat) (o : Bool) : Nat → Nat → Nat → PR
  | 0 => fun p _ => .inr p
  | k + 1 => pBrk σ (pTestW σ (pPlain σ o k))
theorem pPlain_b (k : Nat) : pPlain σ o k = pPlainW σ o (brkP σ o k) k := by cases k <;> rfl
theorem brkP_g (hT : σ T = 4000) (k p q : Nat) (hp : p ≤ T) (hq : q ≤ 50) (c : σ p = 2040) : GR (wfB (nfo o)) T p q (brkP σ o k p q) := by
  cases k with
  | zero => exact hp
  | succ d =>
    show GR _ T p q (pBrk σ (pTestW σ (pPlain σ o d)) p q)
    unfold pBrk
    have g := pTestW_g hT (pPlain_g (o := o) hT d) (p + 1) q (pT hT hp (by omega)) hq
    cases hr : pTestW σ (pPlain σ o d) (p + 1) q with
    | inr e => rw [hr] at g; exact g
    | inl x =>
      obtain ⟨P, p', q'⟩ := x
      rw [hr] at g
      rw [pb_l]
      have k3 := (GR_l.mp g).2.2.1
      by_cases c2 : σ p' = 2041
      · rw [if_pos c2]; exact GR_sh g (by omega) (pT hT k3 (by omega))
      · rw [if_neg c2]; exact k3
/-- brackets of both kinds -/
def BX (σ pl : Nat → Nat) (T : Nat) (o : Bool) (rb : Sg → Int32 → Option (Sg × Int32)) (dep k : Nat) : Prop :=
  (∀ s p q z, XS s σ pl T o p q z → p ≤ T → q ≤ 50 → z ≤ p + 30 → σ p = 2091 → ok (rb s (nI dep)) (RX σ pl T o s z (pPart σ o k p q))) ∧
  ∀ s p q z, XS s σ pl T o p q z → p ≤ T → q ≤ 50 → z ≤ p + 30 → σ p = 2040 → ok (rb s (nI dep)) (RX σ pl T o s z (brkP σ o k p q))
theorem x_all (K : TK σ pl T) {rb : Sg → Int32 → Option (Sg × Int32)} {dep k : Nat} (B : BX σ pl T o rb dep k) : SX σ pl T o (fun s => x6_readSum rb s (nI dep)) (pSum σ o k) ∧ SX σ pl T o (fun s => x6_readTest rb s (nI dep)) (pTest σ o k) := by
  have h1 := x_part K (D := nI dep) B.1
  have g1 := pPart_g (o := o) K.2.1 k
  have h2 := x_term K h1 g1
  have g2 := fun p q hp hq => pTerm_g (p := p) (q := q) K.2.1 g1 hp hq
  have h3 : SX σ pl T o (fun s => x6_readSum rb s (nI dep)) (pSum σ o k) := x_sum K h2 g2
  have h4 := x_cmp K h3
  have h5 : SX σ pl T o (fun s => x6_readPlain rb s (nI dep)) (pPlain σ o k) := by rw [pPlain_b]; exact x_plain K B.2 (fun p q hp hq c => brkP_g K.2.1 k p q hp hq c) h4
  have g5 := pPlain_g (o := o) K.2.1 k
  have h6 := x_both K h5 g5
  exact ⟨h3, x_test K h6 (pBothW_g K.2.1 g5)⟩
theorem x_brk (K : TK σ pl T) : ∀ (d dep k : Nat), dep + k = 8 → k + 1 ≤ d → BX σ pl T o (x6_readBracketed d) dep k := by
  intro d
  induction d with
  | zero => intro dep k _ h; omega
  | succ d ih =>
    intro dep k hdk hd
    have T4 := K.1
    cases k with
    | zero =>
      have f8 : ∀ s p q z, XS s σ pl T o p q z → p ≤ T → ok (x6_readBracketed (d + 1) s (nI dep)) (RX σ pl T o s z (.inr p)) := by
        intro s p q z h hp
        show ok (x6_readBracketed_G _ _ _ _ _ s (nI dep)) _
        unfold x6_readBracketed_G
        rw [gif_f (by rw [ti_lt, nI_ti (by omega), li_8]; omega), xs_fail K h hp]
        simp only [Option.bind_some, gdB0]
        exact ok_some ⟨rfl, fx_fail h⟩
      refine ⟨fun s p q z h hp _ _ c => ?_, fun s p q z h hp _ _ _ => f8 s p q z h hp⟩
      have : pPart σ o 0 p q = .inr p := if_pos c
      rw [this]; exact f8 s p q z h hp
    | succ k =>
      obtain ⟨hs, ht⟩ := x_all K (ih (dep + 1) k (by omega) (by omega))
      have ed : nI dep + 1 = nI (dep + 1) := nI_s (by omega)
      refine ⟨fun s p q z h hp hq hz c => ?_, fun s p q z h hp hq hz c => ?_⟩
      · show ok (x6_readBracketed_G _ _ _ _ _ s (nI dep)) _
        unfold x6_readBracketed_G
        have hp1 := pT K.2.1 hp (by omega)
        have r1 := RS_adv (RS_0 h) (by omega)
        have h1 := r1.1
        simp only [List.length_nil, Nat.add_zero] at h1
        rw [gif_t (by rw [ti_lt, nI_ti (by omega), li_8]; omega), xs_take_n K h hp (m := 2040) li_2040 (by omega)]
        simp only [Option.bind_some, gdB0, gdB1]
        rw [gif_t trivial, xs_tof_y K h hp li_2091 c]
        simp only [Option.bind_some]
        rw [gif_f (by decide), ed]
        refine ok_bind (ok_mono (hs (adv s) (p + 1) q z h1 hp1 hq (by omega)) (fun x hx => ?_))
        have e1 : pPart σ o (k + 1) p q = pb (pSumW σ (pPart σ o k) (p + 1) q) (fun P p' q' => if σ p' = 2093 then .inl (P, p' + 1, q') else .inr p') := if_pos c
        have gs := pSum_g (o := o) K.2.1 k hp1 hq
        rw [e1]
        show ok _ (RX σ pl T o s z (pb (pSum σ o k (p + 1) q) _))
        cases hr : pSum σ o k (p + 1) q with
        | inr e => rw [hr] at hx; rw [gif_t hx.1, pb_r]; exact ok_some ⟨rfl, hx.2⟩
        | inl y =>
          obtain ⟨P, p', q'⟩ := y
          rw [hr] at hx gs
          obtain ⟨x1, x2⟩ := RX_l.mp hx
          have g3 := (GR_l.mp gs).2.2.1
          have ra : RS σ pl T o s x.1 z P p' q' := RS_app r1 (by simpa using x2)
          rw [gif_f (by rw [x1]; decide), pb_l]
          by_cases c2 : σ p' = 2093
          · rw [if_pos c2, xs_tof_y K ra.1 g3 li_2093 c2]
            simp only [Option.bind_some]
            rw [gif_f (by decide)]
            exact ok_some ⟨rfl, RS_adv ra (by omega)⟩
          · rw [if_neg c2, xs_tof_n K ra.1 g3 li_2093 c2]
            simp only [Option.bind_some]
            rw [gif_t trivial]
            exact ok_some ⟨rfl, fx_fail ra.1⟩
      · show ok (x6_readBracketed_G _ _ _ _ _ s (nI dep)) _
        unfold x6_readBracketed_G
        have hp1 := pT K.2.1 hp (by omega)
        have r1 := RS_adv (RS_0 h) (by omega)
        have h1 := r1.1
        simp only [List.length_nil, Nat.add_zero] at h1
        rw [gif_t (by rw [ti_lt, nI_ti (by omega), li_8]; omega), xs_take_y K h hp li_2040 c]
        simp only [Option.bind_some, gdB0, gdB1]
        rw [gif_f (by decide), ed]
        refine ok_bind (ok_mono (ht (adv s) (p + 1) q z h1 hp1 hq (by omega)) (fun x hx => ?_))
        have gs := pTest_g (o := o) K.2.1 k hp1 hq
        have e1 : brkP σ o (k + 1) p q = pb (pTest σ o k (p + 1) q) (fun P p' q' => if σ p' = 2041 then .inl (P, p' + 1, q') else .inr p') := rfl
        rw [e1]
        cases hr : pTest σ o k (p + 1) q with
        | inr e => rw [hr] at hx; rw [gif_t hx.1, pb_r]; exact ok_some ⟨rfl, hx.2⟩
        | inl y =>
          obtain ⟨P, p', q'⟩ := y
          rw [hr] at hx gs
          obtain ⟨x1, x2⟩ := RX_l.mp hx
          have g3 := (GR_l.mp gs).2.2.1
          have ra : RS σ pl T o s x.1 z P p' q' := RS_app r1 (by simpa using x2)
          rw [gif_f (by rw [x1]; decide), pb_l]
          by_cases c2 : σ p' = 2041
          · rw [if_pos c2, xs_tof_y K ra.1 g3 li_2041 c2]
            simp only [Option.bind_some]
            rw [gif_f (by decide)]
            exact ok_some ⟨rfl, RS_adv ra (by omega)⟩
          · rw [if_neg c2, xs_tof_n K ra.1 g3 li_2041 c2]
            simp only [Option.bind_some]
            rw [gif_t trivial]
            exact ok_some ⟨rfl, fx_fail ra.1⟩
/-- the class's sums and tests, of no depth -/
theorem x_sum0 (K : TK σ pl T) : SX σ pl T o (fun s => x6_readSum (x6_readBracketed DR) s 0) (pSum σ o 8) := (x_all K (x_brk K DR 0 8 rfl (by show _ ≤ 10; omega))).1
theorem x_test0 (K : TK σ pl T) : SX σ pl T o (fun s => x6_readTest (x6_readBracketed DR) s 0) (pTest σ o 8) := (x_all K (x_brk K DR 0 8 rfl (by show _ ≤ 10; omega))).2
