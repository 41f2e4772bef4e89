noncomputable def x2_judge_b135_G (K71 : Sg → Nat → Nat → Int32 → Int32 → Int32 → Int32 → Option Sg) (c_x4_valueOf : Sg → Nat → Nat → Int32 → Nat → Nat → Option (Sg × Int64)) (c_x9_clamp : Sg → Int64 → Int32 → Option (Sg × Int32)) (s : Sg) (g0 : Nat) (g2 : Nat) (l3 : Int32) (l5 : Int32) (l6 : Int32) (l7 : Int32) : Option Sg :=
  match g2 with
  | 0 => (
    none)
  | t + 1 => (
    gd (inb l7 12) (
    gif (((rI s 31 t (ix l7)) : Int32) = 2) (
      gd (isB 1) (
      let s1 := wI s 2 g0 7 1
      K71 s1 g0 (t + 1) l3 l5 l6 (l7 + 1)))
    (
      gd (inb l7 12) (
      (c_x4_valueOf s g0 t (rI s 33 t (ix l7)) 19 g0).bind fun q2 => (
      gif (((rI q2.1 4 g0 1) : Int32) = 0) (
        gd (inb l7 12) (
        gif (((rI q2.1 31 t (ix l7)) : Int32) = 0) (
          (c_x9_clamp q2.1 q2.2 999).bind fun q3 => (
          let s4 := wI q3.1 2 g0 5 q3.2
          K71 s4 g0 (t + 1) l3 l5 l6 (l7 + 1)))
        (
          (c_x9_clamp q2.1 q2.2 99).bind fun q5 => (
          let s6 := wI q5.1 2 g0 6 q5.2
          K71 s6 g0 (t + 1) l3 l5 l6 (l7 + 1)))))
      (
        K71 q2.1 g0 (t + 1) l3 l5 l6 (l7 + 1)))))))
noncomputable def x2_judge_b135 (K71 : Sg → Nat → Nat → Int32 → Int32 → Int32 → Int32 → Option Sg) : Sg → Nat → Nat → Int32 → Int32 → Int32 → Int32 → Option Sg := x2_judge_b135_G K71 x4_valueOf x9_clamp
noncomputable def t_x2_judge_b135 (K71 : Sg → Nat → Nat → Int32 → Int32 → Int32 → Int32 → Option Sg) (c_x4_valueOf : Sg → Nat → Nat → Int32 → Nat → Nat → Option (Sg × Int64)) (c_x9_clamp : Sg → Int64 → Int32 → Option (Sg × Int32)) : Bk Sg := (s_ldA 2 (s_getRv 8 0 31 (s_ldI 7 (s_iald 31 12 (s_ic 2 (s_ceq
  (s_ldA 0 (s_ic 1 (s_putZ 2 7 (s_goto (s_inc 7 1 (s_goto (p_R 0 2 fun a0 => p_N 2 fun a2 => p_I 3 fun a3 => p_I 5 fun a5 => p_I 6 fun a6 => p_I 7 fun a7 => p_E fun s => K71 s a0 a2 a3 a5 a6 a7)))))))
  (s_ldA 0 (s_getRv 2 1 4 (s_ldA 2 (s_ldA 2 (s_getRv 8 2 33 (s_ldI 7 (s_iald 33 12 (s_ldA 0 (s_getRv 2 0 19 (s_call (FW_x4_valueOf c_x4_valueOf) 4 (s_stL 8 (s_ldA 0 (s_getRv 2 1 4 (s_getI 4 1 (s_eq0
    (s_ldA 2 (s_getRv 8 0 31 (s_ldI 7 (s_iald 31 12 (s_eq0
      (s_ldA 0 (s_ldL 8 (s_ic 999 (s_call (FW_x9_clamp c_x9_clamp) 2 (s_putI 2 5 (s_goto (s_inc 7 1 (s_goto (p_R 0 2 fun a0 => p_N 2 fun a2 => p_I 3 fun a3 => p_I 5 fun a5 => p_I 6 fun a6 => p_I 7 fun a7 => p_E fun s => K71 s a0 a2 a3 a5 a6 a7)))))))))
      (s_ldA 0 (s_ldL 8 (s_ic 99 (s_call (FW_x9_clamp c_x9_clamp) 2 (s_putI 2 6 (s_inc 7 1 (s_goto (p_R 0 2 fun a0 => p_N 2 fun a2 => p_I 3 fun a3 => p_I 5 fun a5 => p_I 6 fun a6 => p_I 7 fun a7 => p_E fun s => K71 s a0 a2 a3 a5 a6 a7)))))))))))))
    (s_goto (s_inc 7 1 (s_goto (p_R 0 2 fun a0 => p_N 2 fun a2 => p_I 3 fun a3 => p_I 5 fun a5 => p_I 6 fun a6 => p_I 7 fun a7 => p_E fun s => K71 s a0 a2 a3 a5 a6 a7)))))))))))))))))))))))))
set_option maxRecDepth 20000 in
theorem e_x2_judge_b135 (K71 : Sg → Nat → Nat → Int32 → Int32 → Int32 → Int32 → Option Sg) (c_x4_valueOf : Sg → Nat → Nat → Int32 → Nat → Nat → Option (Sg × Int64)) (c_x9_clamp : Sg → Int64 → Int32 → Option (Sg × Int32)) (s : Sg) (g0 : Nat) (g2 : Nat) (l3 : Int32) (l5 : Int32) (l6 : Int32) (l7 : Int32) : x2_judge_b135_G K71 c_x4_valueOf c_x9_clamp s g0 g2 l3 l5 l6 l7 = t_x2_judge_b135 K71 c_x4_valueOf c_x9_clamp [some (.inr (.inr (some (2, g0)))), none, some (g_nt g2), some (.inl l3), none, some (.inl l5), some (.inl l6), some (.inl l7), none, none] [] s := by cases g2 <;> rfl
noncomputable def x2_judge_b97_G (K71 : Sg → Nat → Nat → Int32 → Int32 → Int32 → Int32 → Option Sg) (K135 : Sg → Nat → Nat → Int32 → Int32 → Int32 → Int32 → Option Sg) (c_x4_valueOf : Sg → Nat → Nat → Int32 → Nat → Nat → Option (Sg × Int64)) (s : Sg) (g0 : Nat) (g2 : Nat) (l3 : Int32) (l5 : Int32) (l6 : Int32) (l7 : Int32) : Option Sg :=
  match g2 with
  | 0 => (
    none)
  | t + 1 => (
    gd (inb l7 12) (
    gif (((rI s 35 t (ix l7)) : Int32) = (-1)) (
      K135 s g0 (t + 1) l3 l5 l6 l7)
    (
      gd (inb l7 12) (
      (c_x4_valueOf s g0 t (rI s 35 t (ix l7)) 19 g0).bind fun q1 => (
      gif (((lg_cmp q1.2 0) : Int32) = 0) (
        K71 q1.1 g0 (t + 1) l3 l5 l6 (l7 + 1))
      (
        K135 q1.1 g0 (t + 1) l3 l5 l6 l7))))))
noncomputable def x2_judge_b97 (K71 : Sg → Nat → Nat → Int32 → Int32 → Int32 → Int32 → Option Sg) : Sg → Nat → Nat → Int32 → Int32 → Int32 → Int32 → Option Sg := x2_judge_b97_G K71 (x2_judge_b135 K71) x4_valueOf
noncomputable def t_x2_judge_b97 (K71 : Sg → Nat → Nat → Int32 → Int32 → Int32 → Int32 → Option Sg) (K135 : Sg → Nat → Nat → Int32 → Int32 → Int32 → Int32 → Option Sg) (c_x4_valueOf : Sg → Nat → Nat → Int32 → Nat → Nat → Option (Sg × Int64)) : Bk Sg := (s_ldA 2 (s_getRv 8 4 35 (s_ldI 7 (s_iald 35 12 (s_ic (-1) (s_ceq
  (p_R 0 2 fun a0 => p_N 2 fun a2 => p_I 3 fun a3 => p_I 5 fun a5 => p_I 6 fun a6 => p_I 7 fun a7 => p_E fun s => K135 s a0 a2 a3 a5 a6 a7)
  (s_ldA 0 (s_getRv 2 1 4 (s_ldA 2 (s_ldA 2 (s_getRv 8 4 35 (s_ldI 7 (s_iald 35 12 (s_ldA 0 (s_getRv 2 0 19 (s_call (FW_x4_valueOf c_x4_valueOf) 4 (s_lc 0 (s_lcmp (s_eq0
    (s_goto (s_inc 7 1 (s_goto (p_R 0 2 fun a0 => p_N 2 fun a2 => p_I 3 fun a3 => p_I 5 fun a5 => p_I 6 fun a6 => p_I 7 fun a7 => p_E fun s => K71 s a0 a2 a3 a5 a6 a7))))
    (p_R 0 2 fun a0 => p_N 2 fun a2 => p_I 3 fun a3 => p_I 5 fun a5 => p_I 6 fun a6 => p_I 7 fun a7 => p_E fun s => K135 s a0 a2 a3 a5 a6 a7))))))))))))))))))))
set_option maxRecDepth 20000 in
theorem e_x2_judge_b97 (K71 : Sg → Nat → Nat → Int32 → Int32 → Int32 → Int32 → Option Sg) (K135 : Sg → Nat → Nat → Int32 → Int32 → Int32 → Int32 → Option Sg) (c_x4_valueOf : Sg → Nat → Nat → Int32 → Nat → Nat → Option (Sg × Int64)) (s : Sg) (g0 : Nat) (g2 : Nat) (l3 : Int32) (l5 : Int32) (l6 : Int32) (l7 : Int32) : x2_judge_b97_G K71 K135 c_x4_valueOf s g0 g2 l3 l5 l6 l7 = t_x2_judge_b97 K71 K135 c_x4_valueOf [some (.inr (.inr (some (2, g0)))), none, some (g_nt g2), some (.inl l3), none, some (.inl l5), some (.inl l6), some (.inl l7), none, none] [] s := by cases g2 <;> rfl
noncomputable def x2_judge_b71_G (K71 : Sg → Nat → Nat → Int32 → Int32 → Int32 → Int32 → Option Sg) (K97 : Sg → Nat → Nat → Int32 → Int32 → Int32 → Int32 → Option Sg) (s : Sg) (g0 : Nat) (g2 : Nat) (l3 : Int32) (l5 : Int32) (l6 : Int32) (l7 : Int32) : Option Sg :=
  match g2 with
  | 0 => (
    gif ((l7 : Int32) < l6) (
      gif ((l5 : Int32) = 0) (
        K97 s g0 0 l3 l5 l6 l7)
      (
        none))
    (
      gif ((l3 : Int32) < (rI s 2 g0 3)) (
        gd (isB 0) (
        let s1 := wI s 2 g0 8 0
        some s1))
      (
        gif (((rI s 2 g0 7) : Int32) = 0) (
          gd (isB 1) (
          let s2 := wI s 2 g0 8 1
          some s2))
        (
          gd (isB 0) (
          let s3 := wI s 2 g0 8 0
          some s3)))))
  | t + 1 => (
    gif ((l7 : Int32) < l6) (
      gif ((l5 : Int32) = 0) (
        K97 s g0 (t + 1) l3 l5 l6 l7)
      (
        gd (inb l7 12) (
        gif (((rI s 31 t (ix l7)) : Int32) = 2) (
          K97 s g0 (t + 1) l3 l5 l6 l7)
        (
          K71 s g0 (t + 1) l3 l5 l6 (l7 + 1)))))
    (
      gif ((l3 : Int32) < (rI s 2 g0 3)) (
        gd (isB 0) (
        let s4 := wI s 2 g0 8 0
        some s4))
      (
        gif (((rI s 2 g0 7) : Int32) = 0) (
          gd (isB 1) (
          let s5 := wI s 2 g0 8 1
          some s5))
        (
          gd (isB 0) (
          let s6 := wI s 2 g0 8 0
          some s6)))))
noncomputable def x2_judge_b71 : Nat → Sg → Nat → Nat → Int32 → Int32 → Int32 → Int32 → Option Sg
  | 0 => fun _ _ _ _ _ _ _ => none
  | n + 1 => x2_judge_b71_G (x2_judge_b71 n) (x2_judge_b97 (x2_judge_b71 n))
noncomputable def t_x2_judge_b71 (K71 : Sg → Nat → Nat → Int32 → Int32 → Int32 → Int32 → Option Sg) (K97 : Sg → Nat → Nat → Int32 → Int32 → Int32 → Int32 → Option Sg) : Bk Sg := (s_ldI 7 (s_ldI 6 (s_clt
  (s_ldI 5 (s_eq0
    (p_R 0 2 fun a0 => p_N 2 fun a2 => p_I 3 fun a3 => p_I 5 fun a5 => p_I 6 fun a6 => p_I 7 fun a7 => p_E fun s => K97 s a0 a2 a3 a5 a6 a7)
    (s_ldA 2 (s_getRv 8 0 31 (s_ldI 7 (s_iald 31 12 (s_ic 2 (s_ceq
      (p_R 0 2 fun a0 => p_N 2 fun a2 => p_I 3 fun a3 => p_I 5 fun a5 => p_I 6 fun a6 => p_I 7 fun a7 => p_E fun s => K97 s a0 a2 a3 a5 a6 a7)
      (s_goto (s_inc 7 1 (s_goto (p_R 0 2 fun a0 => p_N 2 fun a2 => p_I 3 fun a3 => p_I 5 fun a5 => p_I 6 fun a6 => p_I 7 fun a7 => p_E fun s => K71 s a0 a2 a3 a5 a6 a7))))))))))))
  (s_ldA 0 (s_ldA 0 (s_getI 2 3 (s_ldI 3 (s_cgt
    (s_ic 0 (s_putZ 2 8 (s_vret retV)))
    (s_ldA 0 (s_getI 2 7 (s_eq0
      (s_ic 1 (s_goto (s_putZ 2 8 (s_vret retV))))
      (s_ic 0 (s_putZ 2 8 (s_vret retV))))))))))))))
set_option maxRecDepth 20000 in
theorem e_x2_judge_b71 (K71 : Sg → Nat → Nat → Int32 → Int32 → Int32 → Int32 → Option Sg) (K97 : Sg → Nat → Nat → Int32 → Int32 → Int32 → Int32 → Option Sg) (s : Sg) (g0 : Nat) (g2 : Nat) (l3 : Int32) (l5 : Int32) (l6 : Int32) (l7 : Int32) : x2_judge_b71_G K71 K97 s g0 g2 l3 l5 l6 l7 = t_x2_judge_b71 K71 K97 [some (.inr (.inr (some (2, g0)))), none, some (g_nt g2), some (.inl l3), none, some (.inl l5), some (.inl l6), some (.inl l7), none, none] [] s := by cases g2 <;> rfl
noncomputable def x2_judge_b33_G (K71 : Sg → Nat → Nat → Int32 → Int32 → Int32 → Int32 → Option Sg) (s : Sg) (g0 : Nat) (g2 : Nat) (l3 : Int32) (l5 : Int32) (h0 : Nat) (y1 : Int32) : Option Sg :=
  match g2 with
  | 0 => (
    let s1 := wI s 2 h0 5 y1
    let s2 := wI s1 2 g0 6 (rI s1 2 g0 4)
    gd (isB 0) (
    let s3 := wI s2 2 g0 7 0
    K71 s3 g0 0 l3 l5 0 0))
  | t + 1 => (
    let s4 := wI s 2 h0 5 y1
    let s5 := wI s4 2 g0 6 (rI s4 2 g0 4)
    gd (isB 0) (
    let s6 := wI s5 2 g0 7 0
    K71 s6 g0 (t + 1) l3 l5 (g_min (rI s6 8 t 6) 12) 0))
noncomputable def x2_judge_b33 : Sg → Nat → Nat → Int32 → Int32 → Nat → Int32 → Option Sg := x2_judge_b33_G (x2_judge_b71 FU)
noncomputable def t_x2_judge_b33 (K71 : Sg → Nat → Nat → Int32 → Int32 → Int32 → Int32 → Option Sg) : Bk Sg := (s_putI 2 5 (s_ldA 0 (s_ldA 0 (s_getI 2 4 (s_putI 2 6 (s_ldA 0 (s_ic 0 (s_putZ 2 7 (s_ldA 2 (s_null0
  (s_ic 0 (s_goto (s_stI 6 (s_ic 0 (s_stI 7 (p_R 0 2 fun a0 => p_N 2 fun a2 => p_I 3 fun a3 => p_I 5 fun a5 => p_I 6 fun a6 => p_I 7 fun a7 => p_E fun s => K71 s a0 a2 a3 a5 a6 a7))))))
  (s_ldA 2 (s_getI 8 6 (s_ic 12 (s_m2 g_min (s_stI 6 (s_ic 0 (s_stI 7 (p_R 0 2 fun a0 => p_N 2 fun a2 => p_I 3 fun a3 => p_I 5 fun a5 => p_I 6 fun a6 => p_I 7 fun a7 => p_E fun s => K71 s a0 a2 a3 a5 a6 a7))))))))))))))))))
set_option maxRecDepth 20000 in
theorem e_x2_judge_b33 (K71 : Sg → Nat → Nat → Int32 → Int32 → Int32 → Int32 → Option Sg) (s : Sg) (g0 : Nat) (g2 : Nat) (l3 : Int32) (l5 : Int32) (h0 : Nat) (y1 : Int32) : x2_judge_b33_G K71 s g0 g2 l3 l5 h0 y1 = t_x2_judge_b33 K71 [some (.inr (.inr (some (2, g0)))), none, some (g_nt g2), some (.inl l3), none, some (.inl l5), none, none, none, none] [.inl y1, .inr (.inr (some (2, h0)))] s := by cases g2 <;> rfl
noncomputable def x2_judge_G (K33 : Sg → Nat → Nat → Int32 → Int32 → Nat → Int32 → Option Sg) (c_x2_gatherFacts : Sg → Nat → Nat → Int32 → Int32 → Option Sg) (s : Sg) (g0 : Nat) (g1 : Nat) (g2 : Nat) (l3 : Int32) (l4 : Int32) (l5 : Int32) : Option Sg :=
  match g2 with
  | 0 => (
    (c_x2_gatherFacts s g0 g1 l3 l4).bind fun s1 => (
    gd (inb 4 8) (
    gif (((rI s1 19 g0 (ix 4)) : Int32) = 1) (
      K33 s1 g0 0 l3 l5 g0 0)
    (
      gd (inb 2 8) (
      K33 s1 g0 0 l3 l5 g0 (g_max 0 (rI s1 19 g0 (ix 2))))))))
  | t + 1 => (
    (c_x2_gatherFacts s g0 g1 l3 l4).bind fun s2 => (
    gd (inb 4 8) (
    gif (((rI s2 19 g0 (ix 4)) : Int32) = 1) (
      K33 s2 g0 (t + 1) l3 l5 g0 0)
    (
      gd (inb 2 8) (
      K33 s2 g0 (t + 1) l3 l5 g0 (g_max 0 (rI s2 19 g0 (ix 2))))))))
noncomputable def x2_judge : Sg → Nat → Nat → Nat → Int32 → Int32 → Int32 → Option Sg := x2_judge_G (x2_judge_b33) x2_gatherFacts
noncomputable def t_x2_judge (K33 : Sg → Nat → Nat → Int32 → Int32 → Nat → Int32 → Option Sg) (c_x2_gatherFacts : Sg → Nat → Nat → Int32 → Int32 → Option Sg) : Bk Sg := (s_ldA 0 (s_ldA 1 (s_ldI 3 (s_ldI 4 (s_call (FW_x2_gatherFacts c_x2_gatherFacts) 4 (s_ldA 0 (s_ldA 0 (s_getRv 2 0 19 (s_ic 4 (s_iald 19 8 (s_ic 1 (s_ceq
  (s_ic 0 (s_goto (p_R 0 2 fun a0 => p_N 2 fun a2 => p_I 3 fun a3 => p_I 5 fun a5 => q_I fun b1 => q_R 2 fun b0 => p_E fun s => K33 s a0 a2 a3 a5 b0 b1)))
  (s_ic 0 (s_ldA 0 (s_getRv 2 0 19 (s_ic 2 (s_iald 19 8 (s_m2 g_max (p_R 0 2 fun a0 => p_N 2 fun a2 => p_I 3 fun a3 => p_I 5 fun a5 => q_I fun b1 => q_R 2 fun b0 => p_E fun s => K33 s a0 a2 a3 a5 b0 b1)))))))))))))))))))
set_option maxRecDepth 20000 in
theorem e_x2_judge (K33 : Sg → Nat → Nat → Int32 → Int32 → Nat → Int32 → Option Sg) (c_x2_gatherFacts : Sg → Nat → Nat → Int32 → Int32 → Option Sg) (s : Sg) (g0 : Nat) (g1 : Nat) (g2 : Nat) (l3 : Int32) (l4 : Int32) (l5 : Int32) : x2_judge_G K33 c_x2_gatherFacts s g0 g1 g2 l3 l4 l5 = t_x2_judge K33 c_x2_gatherFacts [some (.inr (.inr (some (2, g0)))), some (.inr (.inr (some (1, g1)))), some (g_nt g2), some (.inl l3), some (.inl l4), some (.inl l5), none, none, none, none] [] s := by cases g2 <;> rfl
noncomputable def x7_writeDown_b108_G (s : Sg) (l1 : Int32) (h0 : Nat) (y1 : Int32) (y2 : Int32) : Option Sg :=
  gd (inb y1 24) (
  let s1 := wI s 74 h0 (ix y1) y2
  gd (inb 6 7) (
  gif (((rI s1 2 0 8) : Int32) = 0) (
    gd (inb l1 24) (
    let s2 := wI s1 74 (ix 6) (ix l1) 0
    some s2))
  (
    gd (inb l1 24) (
    let s3 := wI s1 74 (ix 6) (ix l1) 1
    some s3))))
noncomputable def x7_writeDown_b108 : Sg → Int32 → Nat → Int32 → Int32 → Option Sg := x7_writeDown_b108_G
noncomputable def t_x7_writeDown_b108 : Bk Sg := (s_iast 74 24 (s_ldA 0 (s_getRc 7 0 30 0 (s_ic 6 (s_aaldT (s_ldI 1 (s_ldA 0 (s_getRc 7 3 2 0 (s_getI 2 8 (s_eq0
  (s_ic 0 (s_iast 74 24 (s_vret retV)))
  (s_ic 1 (s_goto (s_iast 74 24 (s_vret retV))))))))))))))
set_option maxRecDepth 20000 in
theorem e_x7_writeDown_b108 (s : Sg) (l1 : Int32) (h0 : Nat) (y1 : Int32) (y2 : Int32) : x7_writeDown_b108_G s l1 h0 y1 y2 = t_x7_writeDown_b108 [some (.inr (.inr (some (7, 0)))), some (.inl l1)] [.inl y2, .inl y1, .inr (.inr (some (74, h0)))] s := rfl
noncomputable def x7_writeDown_G (K108 : Sg → Int32 → Nat → Int32 → Int32 → Option Sg) (s : Sg) (l1 : Int32) : Option Sg :=
  gif ((l1 : Int32) < 0) (
    some s)
  (
    gif ((l1 : Int32) < 24) (
      gd (inb 0 7) (
      gd (inb l1 24) (
      let s1 := wI s 74 (ix 0) (ix l1) (rI s 2 0 2)
      gd (inb 1 7) (
      gd (inb l1 24) (
      let s2 := wI s1 74 (ix 1) (ix l1) (rI s1 2 0 3)
      gd (inb 2 7) (
      gd (inb l1 24) (
      let s3 := wI s2 74 (ix 2) (ix l1) (rI s2 2 0 4)
      gd (inb 3 7) (
      gd (inb l1 24) (
      let s4 := wI s3 74 (ix 3) (ix l1) (rI s3 2 0 5)
      gd (inb 4 7) (
      gd (inb l1 24) (
      let s5 := wI s4 74 (ix 4) (ix l1) (rI s4 2 0 6)
      gd (inb 5 7) (
      gif (((rI s5 2 0 7) : Int32) = 0) (
        K108 s5 l1 (ix 5) l1 0)
      (
        K108 s5 l1 (ix 5) l1 1)))))))))))))
    (
      some s))
noncomputable def x7_writeDown : Sg → Int32 → Option Sg := x7_writeDown_G (x7_writeDown_b108)
noncomputable def t_x7_writeDown (K108 : Sg → Int32 → Nat → Int32 → Int32 → Option Sg) : Bk Sg := (s_ldI 1 (s_lt0
  (s_vret retV)
  (s_ldI 1 (s_ic 24 (s_clt
    (s_ldA 0 (s_getRc 7 0 30 0 (s_ic 0 (s_aaldT (s_ldI 1 (s_ldA 0 (s_getRc 7 3 2 0 (s_getI 2 2 (s_iast 74 24 (s_ldA 0 (s_getRc 7 0 30 0 (s_ic 1 (s_aaldT (s_ldI 1 (s_ldA 0 (s_getRc 7 3 2 0 (s_getI 2 3 (s_iast 74 24 (s_ldA 0 (s_getRc 7 0 30 0 (s_ic 2 (s_aaldT (s_ldI 1 (s_ldA 0 (s_getRc 7 3 2 0 (s_getI 2 4 (s_iast 74 24 (s_ldA 0 (s_getRc 7 0 30 0 (s_ic 3 (s_aaldT (s_ldI 1 (s_ldA 0 (s_getRc 7 3 2 0 (s_getI 2 5 (s_iast 74 24 (s_ldA 0 (s_getRc 7 0 30 0 (s_ic 4 (s_aaldT (s_ldI 1 (s_ldA 0 (s_getRc 7 3 2 0 (s_getI 2 6 (s_iast 74 24 (s_ldA 0 (s_getRc 7 0 30 0 (s_ic 5 (s_aaldT (s_ldI 1 (s_ldA 0 (s_getRc 7 3 2 0 (s_getI 2 7 (s_eq0
      (s_ic 0 (p_C 0 7 0 <| p_I 1 fun a1 => q_I fun b2 => q_I fun b1 => q_R 74 fun b0 => p_E fun s => K108 s a1 b0 b1 b2))
      (s_ic 1 (s_goto (p_C 0 7 0 <| p_I 1 fun a1 => q_I fun b2 => q_I fun b1 => q_R 74 fun b0 => p_E fun s => K108 s a1 b0 b1 b2)))))))))))))))))))))))))))))))))))))))))))))))))))))))))
    (s_vret retV))))))
set_option maxRecDepth 20000 in
theorem e_x7_writeDown (K108 : Sg → Int32 → Nat → Int32 → Int32 → Option Sg) (s : Sg) (l1 : Int32) : x7_writeDown_G K108 s l1 = t_x7_writeDown K108 [some (.inr (.inr (some (7, 0)))), some (.inl l1)] [] s := rfl
noncomputable def x7_readSetting_b9_G (K9 : Sg → Nat → Int32 → Int32 → Option Sg) (c_x1_endsAt : Sg → Nat → Int32 → Option (Sg × Int32)) (c_x2_measureUp : Sg → Nat → Nat → Int32 → Int32 → Option Sg) (c_x1_lawInForce : Sg → Nat → Option (Sg × Nat)) (c_x2_judge : Sg → Nat → Nat → Nat → Int32 → Int32 → Int32 → Option Sg) (c_x7_writeDown : Sg → Int32 → Option Sg) (s : Sg) (g1 : Nat) (l2 : Int32) (l3 : Int32) : Option Sg :=
  gif ((l3 : Int32) < (2 * (rI s 1 g1 7))) (
    gif (((rI s 7 0 4) : Int32) < 24) (
      (c_x1_endsAt s g1 l3).bind fun q1 => (
      gif ((q1.2 : Int32) = 0) (
        K9 q1.1 g1 l2 (l3 + 1))
      (
        (c_x2_measureUp q1.1 0 g1 l2 l3).bind fun s2 => (
        (c_x1_lawInForce s2 g1).bind fun q3 => (
        match q3.2 with
        | 0 => (
          gd (inb 3 4) (
          (c_x2_judge q3.1 0 g1 0 (rI q3.1 15 g1 (ix 3)) (rI q3.1 7 0 4) 0).bind fun s5 => (
          (c_x7_writeDown s5 (rI s5 7 0 4)).bind fun s6 => (
          let s7 := wI s6 7 0 4 ((rI s6 7 0 4) + 1)
          K9 s7 g1 l3 (l3 + 1)))))
        | t4 + 1 => (
          gd (inb 3 4) (
          (c_x2_judge q3.1 0 g1 (t4 + 1) (rI q3.1 15 g1 (ix 3)) (rI q3.1 7 0 4) 0).bind fun s8 => (
          (c_x7_writeDown s8 (rI s8 7 0 4)).bind fun s9 => (
          let s10 := wI s9 7 0 4 ((rI s9 7 0 4) + 1)
          K9 s10 g1 l3 (l3 + 1))))))))))
    (
      some s))
  (
    some s)
noncomputable def x7_readSetting_b9 : Nat → Sg → Nat → Int32 → Int32 → Option Sg
  | 0 => fun _ _ _ _ => none
  | n + 1 => x7_readSetting_b9_G (x7_readSetting_b9 n) x1_endsAt x2_measureUp x1_lawInForce x2_judge x7_writeDown
noncomputable def t_x7_readSetting_b9 (K9 : Sg → Nat → Int32 → Int32 → Option Sg) (c_x1_endsAt : Sg → Nat → Int32 → Option (Sg × Int32)) (c_x2_measureUp : Sg → Nat → Nat → Int32 → Int32 → Option Sg) (c_x1_lawInForce : Sg → Nat → Option (Sg × Nat)) (c_x2_judge : Sg → Nat → Nat → Nat → Int32 → Int32 → Int32 → Option Sg) (c_x7_writeDown : Sg → Int32 → Option Sg) : Bk Sg := (s_ldI 3 (s_ic 2 (s_ldA 1 (s_getI 1 7 (s_bin (fun x y => x * y) (s_clt
  (s_ldA 0 (s_getI 7 4 (s_ic 24 (s_clt
    (s_ldA 1 (s_ldI 3 (s_call (FW_x1_endsAt c_x1_endsAt) 2 (s_eq0
      (s_inc 3 1 (s_goto (p_C 0 7 0 <| p_R 1 1 fun a1 => p_I 2 fun a2 => p_I 3 fun a3 => p_E fun s => K9 s a1 a2 a3)))
      (s_ldA 0 (s_getRc 7 3 2 0 (s_ldA 1 (s_ldI 2 (s_ldI 3 (s_call (FW_x2_measureUp c_x2_measureUp) 4 (s_ldA 0 (s_getRc 7 3 2 0 (s_ldA 1 (s_ldA 1 (s_call (FW_x1_lawInForce c_x1_lawInForce) 1 (s_ldA 1 (s_getRv 1 3 15 (s_ic 3 (s_iald 15 4 (s_ldA 0 (s_getI 7 4 (s_ic 0 (s_call (FW_x2_judge c_x2_judge) 6 (s_ldA 0 (s_ldA 0 (s_getI 7 4 (s_call (FW_x7_writeDown c_x7_writeDown) 2 (s_ldA 0 (s_dup (s_getI 7 4 (s_ic 1 (s_bin (fun x y => x + y) (s_putI 7 4 (s_ldI 3 (s_stI 2 (s_inc 3 1 (s_goto (p_C 0 7 0 <| p_R 1 1 fun a1 => p_I 2 fun a2 => p_I 3 fun a3 => p_E fun s => K9 s a1 a2 a3))))))))))))))))))))))))))))))))))))))
    (s_vret retV)))))
  (s_vret retV)))))))
set_option maxRecDepth 20000 in
theorem e_x7_readSetting_b9 (K9 : Sg → Nat → Int32 → Int32 → Option Sg) (c_x1_endsAt : Sg → Nat → Int32 → Option (Sg × Int32)) (c_x2_measureUp : Sg → Nat → Nat → Int32 → Int32 → Option Sg) (c_x1_lawInForce : Sg → Nat → Option (Sg × Nat)) (c_x2_judge : Sg → Nat → Nat → Nat → Int32 → Int32 → Int32 → Option Sg) (c_x7_writeDown : Sg → Int32 → Option Sg) (s : Sg) (g1 : Nat) (l2 : Int32) (l3 : Int32) : x7_readSetting_b9_G K9 c_x1_endsAt c_x2_measureUp c_x1_lawInForce c_x2_judge c_x7_writeDown s g1 l2 l3 = t_x7_readSetting_b9 K9 c_x1_endsAt c_x2_measureUp c_x1_lawInForce c_x2_judge c_x7_writeDown [some (.inr (.inr (some (7, 0)))), some (.inr (.inr (some (1, g1)))), some (.inl l2), some (.inl l3)] [] s := rfl
noncomputable def x7_readSetting_G (K9 : Sg → Nat → Int32 → Int32 → Option Sg) (s : Sg) (g1 : Nat) : Option Sg :=
  let s1 := wI s 7 0 4 0
  K9 s1 g1 (-1) 0
noncomputable def x7_readSetting : Sg → Nat → Option Sg := x7_readSetting_G (x7_readSetting_b9 FU)
noncomputable def t_x7_readSetting (K9 : Sg → Nat → Int32 → Int32 → Option Sg) : Bk Sg := (s_ic (-1) (s_stI 2 (s_ldA 0 (s_ic 0 (s_putI 7 4 (s_ic 0 (s_stI 3 (p_C 0 7 0 <| p_R 1 1 fun a1 => p_I 2 fun a2 => p_I 3 fun a3 => p_E fun s => K9 s a1 a2 a3))))))))
set_option maxRecDepth 20000 in
theorem e_x7_readSetting (K9 : Sg → Nat → Int32 → Int32 → Option Sg) (s : Sg) (g1 : Nat) : x7_readSetting_G K9 s g1 = t_x7_readSetting K9 [some (.inr (.inr (some (7, 0)))), some (.inr (.inr (some (1, g1)))), none, none] [] s := rfl
noncomputable def x7_tellOf_G (s : Sg) (l1 : Int32) (l2 : Int32) : Option (Sg × Int32) :=
  gif ((l1 : Int32) < 0) (
    some (s, (-1)))
  (
    gif ((l1 : Int32) < 7) (
      gif ((l2 : Int32) < 0) (
        some (s, (-1)))
      (
        gif ((l2 : Int32) < (rI s 7 0 4)) (
          gif ((l2 : Int32) < 24) (
            gd (inb l1 7) (
            gd (inb l2 24) (
            some (s, (rI s 74 (ix l1) (ix l2))))))
          (
            some (s, (-1))))
        (
          some (s, (-1)))))
    (
      some (s, (-1))))
noncomputable def x7_tellOf : Sg → Int32 → Int32 → Option (Sg × Int32) := x7_tellOf_G
noncomputable def t_x7_tellOf : Bk (Sg × Int32) := (s_ldI 1 (s_lt0
  (s_ic (-1) (s_iret retI))
  (s_ldI 1 (s_ic 7 (s_clt
    (s_ldI 2 (s_lt0
      (s_ic (-1) (s_iret retI))
      (s_ldI 2 (s_ldA 0 (s_getI 7 4 (s_clt
        (s_ldI 2 (s_ic 24 (s_clt
          (s_ldA 0 (s_getRc 7 0 30 0 (s_ldI 1 (s_aaldT (s_ldI 2 (s_iald 74 24 (s_goto (s_iret retI))))))))
          (s_ic (-1) (s_iret retI)))))
        (s_ic (-1) (s_iret retI))))))))
    (s_ic (-1) (s_iret retI)))))))
set_option maxRecDepth 20000 in
theorem e_x7_tellOf (s : Sg) (l1 : Int32) (l2 : Int32) : x7_tellOf_G s l1 l2 = t_x7_tellOf [some (.inr (.inr (some (7, 0)))), some (.inl l1), some (.inl l2)] [] s := rfl
noncomputable def x7_together_b4_G (K4 : Sg → Int32 → Int32 → Int32 → Option (Sg × Int32)) (c_x7_tellOf : Sg → Int32 → Int32 → Option (Sg × Int32)) (s : Sg) (l1 : Int32) (l2 : Int32) (l3 : Int32) : Option (Sg × Int32) :=
  gif ((l3 : Int32) < (rI s 7 0 4)) (
    (c_x7_tellOf s l1 l3).bind fun q1 => (
    K4 q1.1 l1 (l2 + q1.2) (l3 + 1)))
  (
    some (s, l2))
noncomputable def x7_together_b4 : Nat → Sg → Int32 → Int32 → Int32 → Option (Sg × Int32)
  | 0 => fun _ _ _ _ => none
  | n + 1 => x7_together_b4_G (x7_together_b4 n) x7_tellOf
noncomputable def t_x7_together_b4 (K4 : Sg → Int32 → Int32 → Int32 → Option (Sg × Int32)) (c_x7_tellOf : Sg → Int32 → Int32 → Option (Sg × Int32)) : Bk (Sg × Int32) := (s_ldI 3 (s_ldA 0 (s_getI 7 4 (s_clt
  (s_ldI 2 (s_ldA 0 (s_ldI 1 (s_ldI 3 (s_call (FW_x7_tellOf c_x7_tellOf) 3 (s_bin (fun x y => x + y) (s_stI 2 (s_inc 3 1 (s_goto (p_C 0 7 0 <| p_I 1 fun a1 => p_I 2 fun a2 => p_I 3 fun a3 => p_E fun s => K4 s a1 a2 a3))))))))))
  (s_ldI 2 (s_iret retI))))))
set_option maxRecDepth 20000 in
theorem e_x7_together_b4 (K4 : Sg → Int32 → Int32 → Int32 → Option (Sg × Int32)) (c_x7_tellOf : Sg → Int32 → Int32 → Option (Sg × Int32)) (s : Sg) (l1 : Int32) (l2 : Int32) (l3 : Int32) : x7_together_b4_G K4 c_x7_tellOf s l1 l2 l3 = t_x7_together_b4 K4 c_x7_tellOf [some (.inr (.inr (some (7, 0)))), some (.inl l1), some (.inl l2), some (.inl l3)] [] s := rfl
noncomputable def x7_together_G (K4 : Sg → Int32 → Int32 → Int32 → Option (Sg × Int32)) (s : Sg) (l1 : Int32) : Option (Sg × Int32) :=
  K4 s l1 0 0
noncomputable def x7_together : Sg → Int32 → Option (Sg × Int32) := x7_together_G (x7_together_b4 FU)
noncomputable def t_x7_together (K4 : Sg → Int32 → Int32 → Int32 → Option (Sg × Int32)) : Bk (Sg × Int32) := (s_ic 0 (s_stI 2 (s_ic 0 (s_stI 3 (p_C 0 7 0 <| p_I 1 fun a1 => p_I 2 fun a2 => p_I 3 fun a3 => p_E fun s => K4 s a1 a2 a3)))))
set_option maxRecDepth 20000 in
theorem e_x7_together (K4 : Sg → Int32 → Int32 → Int32 → Option (Sg × Int32)) (s : Sg) (l1 : Int32) : x7_together_G K4 s l1 = t_x7_together K4 [some (.inr (.inr (some (7, 0)))), some (.inl l1), none, none] [] s := rfl
noncomputable def x0_endsOf_G (c_x1_has : Sg → Nat → Int32 → Option (Sg × Int32)) (c_x1_endsAfter : Sg → Nat → Int32 → Option (Sg × Int32)) (c_x1_isSplit : Sg → Nat → Int32 → Option (Sg × Int32)) (s : Sg) (l1 : Int32) : Option (Sg × Int32) :=
  (c_x1_has s 0 l1).bind fun q1 => (
  gif ((q1.2 : Int32) = 0) (
    some (q1.1, (-1)))
  (
    (c_x1_endsAfter q1.1 0 l1).bind fun q2 => (
    gif ((q2.2 : Int32) = 0) (
      (c_x1_isSplit q2.1 0 l1).bind fun q3 => (
      gif ((q3.2 : Int32) = 0) (
        some (q3.1, (0 + 0)))
      (
        some (q3.1, (0 + 2)))))
    (
      (c_x1_isSplit q2.1 0 l1).bind fun q4 => (
      gif ((q4.2 : Int32) = 0) (
        some (q4.1, (1 + 0)))
      (
        some (q4.1, (1 + 2))))))))
noncomputable def x0_endsOf : Sg → Int32 → Option (Sg × Int32) := x0_endsOf_G x1_has x1_endsAfter x1_isSplit
noncomputable def t_x0_endsOf (c_x1_has : Sg → Nat → Int32 → Option (Sg × Int32)) (c_x1_endsAfter : Sg → Nat → Int32 → Option (Sg × Int32)) (c_x1_isSplit : Sg → Nat → Int32 → Option (Sg × Int32)) : Bk (Sg × Int32) := (s_ldA 0 (s_getRc 0 0 1 0 (s_ldI 1 (s_call (FW_x1_has c_x1_has) 2 (s_eq0
  (s_ic (-1) (s_iret retI))
  (s_ldA 0 (s_getRc 0 0 1 0 (s_ldI 1 (s_call (FW_x1_endsAfter c_x1_endsAfter) 2 (s_eq0
    (s_ic 0 (s_ldA 0 (s_getRc 0 0 1 0 (s_ldI 1 (s_call (FW_x1_isSplit c_x1_isSplit) 2 (s_eq0
      (s_ic 0 (s_bin (fun x y => x + y) (s_iret retI)))
      (s_ic 2 (s_goto (s_bin (fun x y => x + y) (s_iret retI))))))))))
    (s_ic 1 (s_goto (s_ldA 0 (s_getRc 0 0 1 0 (s_ldI 1 (s_call (FW_x1_isSplit c_x1_isSplit) 2 (s_eq0
      (s_ic 0 (s_bin (fun x y => x + y) (s_iret retI)))
      (s_ic 2 (s_goto (s_bin (fun x y => x + y) (s_iret retI)))))))))))))))))))))
set_option maxRecDepth 20000 in
theorem e_x0_endsOf (c_x1_has : Sg → Nat → Int32 → Option (Sg × Int32)) (c_x1_endsAfter : Sg → Nat → Int32 → Option (Sg × Int32)) (c_x1_isSplit : Sg → Nat → Int32 → Option (Sg × Int32)) (s : Sg) (l1 : Int32) : x0_endsOf_G c_x1_has c_x1_endsAfter c_x1_isSplit s l1 = t_x0_endsOf c_x1_has c_x1_endsAfter c_x1_isSplit [some (.inr (.inr (some (0, 0)))), some (.inl l1)] [] s := rfl
noncomputable def x0_gatherOrderFacts_b65_G (K65 : Sg → Int32 → Option Sg) (c_x1_wideOf : Sg → Nat → Int32 → Option (Sg × Int32)) (c_x0_endsOf : Sg → Int32 → Option (Sg × Int32)) (s : Sg) (l1 : Int32) : Option Sg :=
  gif ((l1 : Int32) < 12) (
    (c_x1_wideOf s 0 l1).bind fun q1 => (
    gd (inb (5 + l1) 29) (
    let s2 := wI q1.1 11 0 (ix (5 + l1)) q1.2
    (c_x0_endsOf s2 l1).bind fun q3 => (
    gd (inb (17 + l1) 29) (
    let s4 := wI q3.1 11 0 (ix (17 + l1)) q3.2
    K65 s4 (l1 + 1))))))
  (
    some s)
noncomputable def x0_gatherOrderFacts_b65 : Nat → Sg → Int32 → Option Sg
  | 0 => fun _ _ => none
  | n + 1 => x0_gatherOrderFacts_b65_G (x0_gatherOrderFacts_b65 n) x1_wideOf x0_endsOf
noncomputable def t_x0_gatherOrderFacts_b65 (K65 : Sg → Int32 → Option Sg) (c_x1_wideOf : Sg → Nat → Int32 → Option (Sg × Int32)) (c_x0_endsOf : Sg → Int32 → Option (Sg × Int32)) : Bk Sg := (s_ldI 1 (s_ic 12 (s_clt
  (s_ldA 0 (s_getRc 0 6 11 0 (s_ic 5 (s_ldI 1 (s_bin (fun x y => x + y) (s_ldA 0 (s_getRc 0 0 1 0 (s_ldI 1 (s_call (FW_x1_wideOf c_x1_wideOf) 2 (s_iast 11 29 (s_ldA 0 (s_getRc 0 6 11 0 (s_ic 17 (s_ldI 1 (s_bin (fun x y => x + y) (s_ldA 0 (s_ldI 1 (s_call (FW_x0_endsOf c_x0_endsOf) 2 (s_iast 11 29 (s_inc 1 1 (s_goto (p_C 0 0 0 <| p_I 1 fun a1 => p_E fun s => K65 s a1))))))))))))))))))))))
  (s_vret retV))))
set_option maxRecDepth 20000 in
theorem e_x0_gatherOrderFacts_b65 (K65 : Sg → Int32 → Option Sg) (c_x1_wideOf : Sg → Nat → Int32 → Option (Sg × Int32)) (c_x0_endsOf : Sg → Int32 → Option (Sg × Int32)) (s : Sg) (l1 : Int32) : x0_gatherOrderFacts_b65_G K65 c_x1_wideOf c_x0_endsOf s l1 = t_x0_gatherOrderFacts_b65 K65 c_x1_wideOf c_x0_endsOf [some (.inr (.inr (some (0, 0)))), some (.inl l1)] [] s := rfl
noncomputable def x0_gatherOrderFacts_G (K65 : Sg → Int32 → Option Sg) (c_x7_together : Sg → Int32 → Option (Sg × Int32)) (s : Sg) : Option Sg :=
  gd (inb 0 4) (
  gd (inb 0 29) (
  let s1 := wI s 11 0 (ix 0) (rI s 15 0 (ix 0))
  gd (inb 1 29) (
  let s2 := wI s1 11 0 (ix 1) (rI s1 0 0 8)
  gd (inb 2 29) (
  let s3 := wI s2 11 0 (ix 2) (rI s2 0 0 7)
  gd (inb 3 29) (
  let s4 := wI s3 11 0 (ix 3) (rI s3 7 0 4)
  (c_x7_together s4 6).bind fun q5 => (
  gd (inb 4 29) (
  let s6 := wI q5.1 11 0 (ix 4) q5.2
  K65 s6 0)))))))
noncomputable def x0_gatherOrderFacts : Sg → Option Sg := x0_gatherOrderFacts_G (x0_gatherOrderFacts_b65 FU) x7_together
noncomputable def t_x0_gatherOrderFacts (K65 : Sg → Int32 → Option Sg) (c_x7_together : Sg → Int32 → Option (Sg × Int32)) : Bk Sg := (s_ldA 0 (s_getRc 0 6 11 0 (s_ic 0 (s_ldA 0 (s_getRc 0 0 1 0 (s_getRv 1 3 15 (s_ic 0 (s_iald 15 4 (s_iast 11 29 (s_ldA 0 (s_getRc 0 6 11 0 (s_ic 1 (s_ldA 0 (s_getI 0 8 (s_iast 11 29 (s_ldA 0 (s_getRc 0 6 11 0 (s_ic 2 (s_ldA 0 (s_getI 0 7 (s_iast 11 29 (s_ldA 0 (s_getRc 0 6 11 0 (s_ic 3 (s_ldA 0 (s_getRc 0 2 7 0 (s_getI 7 4 (s_iast 11 29 (s_ldA 0 (s_getRc 0 6 11 0 (s_ic 4 (s_ldA 0 (s_getRc 0 2 7 0 (s_ic 6 (s_call (FW_x7_together c_x7_together) 2 (s_iast 11 29 (s_ic 0 (s_stI 1 (p_C 0 0 0 <| p_I 1 fun a1 => p_E fun s => K65 s a1)))))))))))))))))))))))))))))))))))))))
set_option maxRecDepth 20000 in
theorem e_x0_gatherOrderFacts (K65 : Sg → Int32 → Option Sg) (c_x7_together : Sg → Int32 → Option (Sg × Int32)) (s : Sg) : x0_gatherOrderFacts_G K65 c_x7_together s = t_x0_gatherOrderFacts K65 c_x7_together [some (.inr (.inr (some (0, 0)))), none] [] s := rfl
noncomputable def x0_runOnce_b150_G (c_x0_attempt : Sg → Int32 → Int32 → Int32 → Option (Sg × Int32)) (s : Sg) (g1 : Nat) (l2 : Int32) (l3 : Int64) (l5 : Int64) : Option (Sg × Int32) :=
  gd (inb l2 12) (
  (c_x0_attempt s (rI s 31 g1 (ix l2)) (Int64.toInt32 l3) (Int64.toInt32 l5)).bind fun q1 => (
  gif ((q1.2 : Int32) = 0) (
    gd (inb l2 12) (
    gif (((rI q1.1 31 g1 (ix l2)) : Int32) = 3) (
      gd (inb 4 29) (
      let s2 := wI q1.1 0 0 7 (rI q1.1 11 0 (ix 4))
      let s3 := wI s2 0 0 8 ((rI s2 0 0 8) + 1)
      gd (isB 1) (some (s3, 1))))
    (
      let s4 := wI q1.1 0 0 8 ((rI q1.1 0 0 8) + 1)
      gd (isB 1) (some (s4, 1)))))
  (
    gd (isB 0) (some (q1.1, 0)))))
noncomputable def x0_runOnce_b150 : Sg → Nat → Int32 → Int64 → Int64 → Option (Sg × Int32) := x0_runOnce_b150_G x0_attempt
noncomputable def t_x0_runOnce_b150 (c_x0_attempt : Sg → Int32 → Int32 → Int32 → Option (Sg × Int32)) : Bk (Sg × Int32) := (s_ldA 0 (s_ldA 1 (s_getRv 8 0 31 (s_ldI 2 (s_iald 31 12 (s_ldL 3 (s_l2i (s_ldL 5 (s_l2i (s_call (FW_x0_attempt c_x0_attempt) 4 (s_eq0
  (s_ldA 1 (s_getRv 8 0 31 (s_ldI 2 (s_iald 31 12 (s_ic 3 (s_ceq
    (s_ldA 0 (s_ldA 0 (s_getRc 0 6 11 0 (s_ic 4 (s_iald 11 29 (s_putI 0 7 (s_ldA 0 (s_dup (s_getI 0 8 (s_ic 1 (s_bin (fun x y => x + y) (s_putI 0 8 (s_ic 1 (s_zret retI))))))))))))))
    (s_ldA 0 (s_dup (s_getI 0 8 (s_ic 1 (s_bin (fun x y => x + y) (s_putI 0 8 (s_ic 1 (s_zret retI))))))))))))))
  (s_ic 0 (s_zret retI)))))))))))))
set_option maxRecDepth 20000 in
theorem e_x0_runOnce_b150 (c_x0_attempt : Sg → Int32 → Int32 → Int32 → Option (Sg × Int32)) (s : Sg) (g1 : Nat) (l2 : Int32) (l3 : Int64) (l5 : Int64) : x0_runOnce_b150_G c_x0_attempt s g1 l2 l3 l5 = t_x0_runOnce_b150 c_x0_attempt [some (.inr (.inr (some (0, 0)))), some (.inr (.inr (some (8, g1)))), some (.inl l2), some (.inr (.inl l3)), none, some (.inr (.inl l5)), none] [] s := rfl
noncomputable def x0_runOnce_b108_G (K150 : Sg → Nat → Int32 → Int64 → Int64 → Option (Sg × Int32)) (c_x4_valueOf : Sg → Nat → Nat → Int32 → Nat → Nat → Option (Sg × Int64)) (s : Sg) (g1 : Nat) (l2 : Int32) (l3 : Int64) (l5 : Int64) : Option (Sg × Int32) :=
  gd (inb l2 12) (
  gif (((rI s 34 g1 (ix l2)) : Int32) = (-1)) (
    K150 s g1 l2 l3 l5)
  (
    gd (inb l2 12) (
    (c_x4_valueOf s 2 g1 (rI s 34 g1 (ix l2)) 11 0).bind fun q1 => (
    gif (((rI q1.1 4 2 1) : Int32) = 0) (
      K150 q1.1 g1 l2 l3 q1.2)
    (
      gd (isB 0) (some (q1.1, 0)))))))
noncomputable def x0_runOnce_b108 : Sg → Nat → Int32 → Int64 → Int64 → Option (Sg × Int32) := x0_runOnce_b108_G (x0_runOnce_b150) x4_valueOf
noncomputable def t_x0_runOnce_b108 (K150 : Sg → Nat → Int32 → Int64 → Int64 → Option (Sg × Int32)) (c_x4_valueOf : Sg → Nat → Nat → Int32 → Nat → Nat → Option (Sg × Int64)) : Bk (Sg × Int32) := (s_ldA 1 (s_getRv 8 3 34 (s_ldI 2 (s_iald 34 12 (s_ic (-1) (s_ceq
  (p_C 0 0 0 <| p_R 1 8 fun a1 => p_I 2 fun a2 => p_L 3 fun a3 => p_L 5 fun a5 => p_E fun s => K150 s a1 a2 a3 a5)
  (s_ldA 0 (s_getRc 0 3 4 2 (s_ldA 1 (s_ldA 1 (s_getRv 8 3 34 (s_ldI 2 (s_iald 34 12 (s_ldA 0 (s_getRc 0 6 11 0 (s_call (FW_x4_valueOf c_x4_valueOf) 4 (s_stL 5 (s_ldA 0 (s_getRc 0 3 4 2 (s_getI 4 1 (s_eq0
    (p_C 0 0 0 <| p_R 1 8 fun a1 => p_I 2 fun a2 => p_L 3 fun a3 => p_L 5 fun a5 => p_E fun s => K150 s a1 a2 a3 a5)
    (s_ic 0 (s_zret retI)))))))))))))))))))))))
set_option maxRecDepth 20000 in
theorem e_x0_runOnce_b108 (K150 : Sg → Nat → Int32 → Int64 → Int64 → Option (Sg × Int32)) (c_x4_valueOf : Sg → Nat → Nat → Int32 → Nat → Nat → Option (Sg × Int64)) (s : Sg) (g1 : Nat) (l2 : Int32) (l3 : Int64) (l5 : Int64) : x0_runOnce_b108_G K150 c_x4_valueOf s g1 l2 l3 l5 = t_x0_runOnce_b108 K150 c_x4_valueOf [some (.inr (.inr (some (0, 0)))), some (.inr (.inr (some (8, g1)))), some (.inl l2), some (.inr (.inl l3)), none, some (.inr (.inl l5)), none] [] s := rfl
noncomputable def x0_runOnce_b62_G (K108 : Sg → Nat → Int32 → Int64 → Int64 → Option (Sg × Int32)) (c_x4_valueOf : Sg → Nat → Nat → Int32 → Nat → Nat → Option (Sg × Int64)) (s : Sg) (g1 : Nat) (l2 : Int32) : Option (Sg × Int32) :=
  gd (inb l2 12) (
  gif (((rI s 33 g1 (ix l2)) : Int32) = (-1)) (
    K108 s g1 l2 0 0)
  (
    gd (inb l2 12) (
    (c_x4_valueOf s 2 g1 (rI s 33 g1 (ix l2)) 11 0).bind fun q1 => (
    gif (((rI q1.1 4 2 1) : Int32) = 0) (
      K108 q1.1 g1 l2 q1.2 0)
    (
      gd (isB 0) (some (q1.1, 0)))))))
noncomputable def x0_runOnce_b62 : Sg → Nat → Int32 → Option (Sg × Int32) := x0_runOnce_b62_G (x0_runOnce_b108) x4_valueOf
noncomputable def t_x0_runOnce_b62 (K108 : Sg → Nat → Int32 → Int64 → Int64 → Option (Sg × Int32)) (c_x4_valueOf : Sg → Nat → Nat → Int32 → Nat → Nat → Option (Sg × Int64)) : Bk (Sg × Int32) := (s_lc 0 (s_stL 3 (s_lc 0 (s_stL 5 (s_ldA 1 (s_getRv 8 2 33 (s_ldI 2 (s_iald 33 12 (s_ic (-1) (s_ceq
  (p_C 0 0 0 <| p_R 1 8 fun a1 => p_I 2 fun a2 => p_L 3 fun a3 => p_L 5 fun a5 => p_E fun s => K108 s a1 a2 a3 a5)
  (s_ldA 0 (s_getRc 0 3 4 2 (s_ldA 1 (s_ldA 1 (s_getRv 8 2 33 (s_ldI 2 (s_iald 33 12 (s_ldA 0 (s_getRc 0 6 11 0 (s_call (FW_x4_valueOf c_x4_valueOf) 4 (s_stL 3 (s_ldA 0 (s_getRc 0 3 4 2 (s_getI 4 1 (s_eq0
    (p_C 0 0 0 <| p_R 1 8 fun a1 => p_I 2 fun a2 => p_L 3 fun a3 => p_L 5 fun a5 => p_E fun s => K108 s a1 a2 a3 a5)
    (s_ic 0 (s_zret retI)))))))))))))))))))))))))))
set_option maxRecDepth 20000 in
theorem e_x0_runOnce_b62 (K108 : Sg → Nat → Int32 → Int64 → Int64 → Option (Sg × Int32)) (c_x4_valueOf : Sg → Nat → Nat → Int32 → Nat → Nat → Option (Sg × Int64)) (s : Sg) (g1 : Nat) (l2 : Int32) : x0_runOnce_b62_G K108 c_x4_valueOf s g1 l2 = t_x0_runOnce_b62 K108 c_x4_valueOf [some (.inr (.inr (some (0, 0)))), some (.inr (.inr (some (8, g1)))), some (.inl l2), none, none, none, none] [] s := rfl
noncomputable def x0_runOnce_G (K62 : Sg → Nat → Int32 → Option (Sg × Int32)) (c_x7_readSetting : Sg → Nat → Option Sg) (c_x0_gatherOrderFacts : Sg → Option Sg) (c_x4_valueOf : Sg → Nat → Nat → Int32 → Nat → Nat → Option (Sg × Int64)) (s : Sg) (g1 : Nat) (l2 : Int32) : Option (Sg × Int32) :=
  gif ((l2 : Int32) < 0) (
    gd (isB 0) (some (s, 0)))
  (
    gif ((l2 : Int32) < 12) (
      (c_x7_readSetting s 0).bind fun s1 => (
      (c_x0_gatherOrderFacts s1).bind fun s2 => (
      gd (inb l2 12) (
      gif (((rI s2 35 g1 (ix l2)) : Int32) = (-1)) (
        K62 s2 g1 l2)
      (
        gd (inb l2 12) (
        (c_x4_valueOf s2 2 g1 (rI s2 35 g1 (ix l2)) 11 0).bind fun q3 => (
        gif (((lg_cmp q3.2 0) : Int32) = 0) (
          gd (isB 1) (some (q3.1, 1)))
        (
          K62 q3.1 g1 l2))))))))
    (
      gd (isB 0) (some (s, 0))))
noncomputable def x0_runOnce : Sg → Nat → Int32 → Option (Sg × Int32) := x0_runOnce_G (x0_runOnce_b62) x7_readSetting x0_gatherOrderFacts x4_valueOf
noncomputable def t_x0_runOnce (K62 : Sg → Nat → Int32 → Option (Sg × Int32)) (c_x7_readSetting : Sg → Nat → Option Sg) (c_x0_gatherOrderFacts : Sg → Option Sg) (c_x4_valueOf : Sg → Nat → Nat → Int32 → Nat → Nat → Option (Sg × Int64)) : Bk (Sg × Int32) := (s_ldI 2 (s_lt0
  (s_ic 0 (s_zret retI))
  (s_ldI 2 (s_ic 12 (s_clt
    (s_ldA 0 (s_getRc 0 2 7 0 (s_ldA 0 (s_getRc 0 0 1 0 (s_call (FW_x7_readSetting c_x7_readSetting) 2 (s_ldA 0 (s_call (FW_x0_gatherOrderFacts c_x0_gatherOrderFacts) 1 (s_ldA 1 (s_getRv 8 4 35 (s_ldI 2 (s_iald 35 12 (s_ic (-1) (s_ceq
      (p_C 0 0 0 <| p_R 1 8 fun a1 => p_I 2 fun a2 => p_E fun s => K62 s a1 a2)
      (s_ldA 0 (s_getRc 0 3 4 2 (s_ldA 1 (s_ldA 1 (s_getRv 8 4 35 (s_ldI 2 (s_iald 35 12 (s_ldA 0 (s_getRc 0 6 11 0 (s_call (FW_x4_valueOf c_x4_valueOf) 4 (s_lc 0 (s_lcmp (s_eq0
        (s_ic 1 (s_zret retI))
        (p_C 0 0 0 <| p_R 1 8 fun a1 => p_I 2 fun a2 => p_E fun s => K62 s a1 a2)))))))))))))))))))))))))))
    (s_ic 0 (s_zret retI)))))))
set_option maxRecDepth 20000 in
theorem e_x0_runOnce (K62 : Sg → Nat → Int32 → Option (Sg × Int32)) (c_x7_readSetting : Sg → Nat → Option Sg) (c_x0_gatherOrderFacts : Sg → Option Sg) (c_x4_valueOf : Sg → Nat → Nat → Int32 → Nat → Nat → Option (Sg × Int64)) (s : Sg) (g1 : Nat) (l2 : Int32) : x0_runOnce_G K62 c_x7_readSetting c_x0_gatherOrderFacts c_x4_valueOf s g1 l2 = t_x0_runOnce K62 c_x7_readSetting c_x0_gatherOrderFacts c_x4_valueOf [some (.inr (.inr (some (0, 0)))), some (.inr (.inr (some (8, g1)))), some (.inl l2), none, none, none, none] [] s := rfl
noncomputable def x1_canBeSplit_G (c_x1_has : Sg → Nat → Int32 → Option (Sg × Int32)) (s : Sg) (g0 : Nat) (l1 : Int32) : Option (Sg × Int32) :=
  (c_x1_has s g0 l1).bind fun q1 => (
  gif ((q1.2 : Int32) = 0) (
    gd (isB 0) (some (q1.1, 0)))
  (
    gd (inb l1 12) (
    gif ((0 : Int32) < (rI q1.1 13 g0 (ix l1))) (
      gd (isB 1) (some (q1.1, 1)))
    (
      gd (isB 0) (some (q1.1, 0))))))
noncomputable def x1_canBeSplit : Sg → Nat → Int32 → Option (Sg × Int32) := x1_canBeSplit_G x1_has
noncomputable def t_x1_canBeSplit (c_x1_has : Sg → Nat → Int32 → Option (Sg × Int32)) : Bk (Sg × Int32) := (s_ldA 0 (s_ldI 1 (s_call (FW_x1_has c_x1_has) 2 (s_eq0
  (s_ic 0 (s_zret retI))
  (s_ldA 0 (s_getRv 1 1 13 (s_ldI 1 (s_iald 13 12 (s_gt0
    (s_ic 1 (s_goto (s_zret retI)))
    (s_ic 0 (s_zret retI)))))))))))
set_option maxRecDepth 20000 in
theorem e_x1_canBeSplit (c_x1_has : Sg → Nat → Int32 → Option (Sg × Int32)) (s : Sg) (g0 : Nat) (l1 : Int32) : x1_canBeSplit_G c_x1_has s g0 l1 = t_x1_canBeSplit c_x1_has [some (.inr (.inr (some (1, g0)))), some (.inl l1)] [] s := rfl
noncomputable def x1_canEndAt_G (c_x1_canBeSplit : Sg → Nat → Int32 → Option (Sg × Int32)) (c_x1_has : Sg → Nat → Int32 → Option (Sg × Int32)) (s : Sg) (g0 : Nat) (l1 : Int32) : Option (Sg × Int32) :=
  gd (¬ 2 = (0 : Int32)) (
  gif (((g_rem l1 2) : Int32) = 0) (
    gd (¬ 2 = (0 : Int32)) (
    (c_x1_canBeSplit s g0 (l1 / 2)).bind fun q1 => (
    gd (isB q1.2) (some (q1.1, q1.2)))))
  (
    gd (¬ 2 = (0 : Int32)) (
    (c_x1_has s g0 (l1 / 2)).bind fun q2 => (
    gd (isB q2.2) (some (q2.1, q2.2))))))
noncomputable def x1_canEndAt : Sg → Nat → Int32 → Option (Sg × Int32) := x1_canEndAt_G x1_canBeSplit x1_has
noncomputable def t_x1_canEndAt (c_x1_canBeSplit : Sg → Nat → Int32 → Option (Sg × Int32)) (c_x1_has : Sg → Nat → Int32 → Option (Sg × Int32)) : Bk (Sg × Int32) := (s_ldI 1 (s_ic 2 (s_div g_rem (s_eq0
  (s_ldA 0 (s_ldI 1 (s_ic 2 (s_div (fun x y => x / y) (s_call (FW_x1_canBeSplit c_x1_canBeSplit) 2 (s_goto (s_zret retI)))))))
  (s_ldA 0 (s_ldI 1 (s_ic 2 (s_div (fun x y => x / y) (s_call (FW_x1_has c_x1_has) 2 (s_zret retI))))))))))
set_option maxRecDepth 20000 in
theorem e_x1_canEndAt (c_x1_canBeSplit : Sg → Nat → Int32 → Option (Sg × Int32)) (c_x1_has : Sg → Nat → Int32 → Option (Sg × Int32)) (s : Sg) (g0 : Nat) (l1 : Int32) : x1_canEndAt_G c_x1_canBeSplit c_x1_has s g0 l1 = t_x1_canEndAt c_x1_canBeSplit c_x1_has [some (.inr (.inr (some (1, g0)))), some (.inl l1)] [] s := rfl
noncomputable def x1_addWord_G (s : Sg) (g0 : Nat) (l1 : Int32) (l2 : Int32) (l3 : Int32) : Option Sg :=
  gif (((rI s 1 g0 7) : Int32) < 0) (
    some s)
  (
    gif (((rI s 1 g0 7) : Int32) < 12) (
      gd (inb (rI s 1 g0 7) 12) (
      let s1 := wI s 12 g0 (ix (rI s 1 g0 7)) l1
      gd (inb (rI s1 1 g0 7) 12) (
      let s2 := wI s1 13 g0 (ix (rI s1 1 g0 7)) l2
      gd (inb (rI s2 1 g0 7) 12) (
      let s3 := wI s2 14 g0 (ix (rI s2 1 g0 7)) l3
      let s4 := wI s3 1 g0 7 ((rI s3 1 g0 7) + 1)
      some s4))))
    (
      some s))
noncomputable def x1_addWord : Sg → Nat → Int32 → Int32 → Int32 → Option Sg := x1_addWord_G
noncomputable def t_x1_addWord : Bk Sg := (s_ldA 0 (s_getI 1 7 (s_lt0
  (s_vret retV)
  (s_ldA 0 (s_getI 1 7 (s_ic 12 (s_clt
    (s_ldA 0 (s_getRv 1 0 12 (s_ldA 0 (s_getI 1 7 (s_ldI 1 (s_iast 12 12 (s_ldA 0 (s_getRv 1 1 13 (s_ldA 0 (s_getI 1 7 (s_ldI 2 (s_iast 13 12 (s_ldA 0 (s_getRv 1 2 14 (s_ldA 0 (s_getI 1 7 (s_ldI 3 (s_iast 14 12 (s_ldA 0 (s_dup (s_getI 1 7 (s_ic 1 (s_bin (fun x y => x + y) (s_putI 1 7 (s_vret retV)))))))))))))))))))))))))
    (s_vret retV))))))))
set_option maxRecDepth 20000 in
theorem e_x1_addWord (s : Sg) (g0 : Nat) (l1 : Int32) (l2 : Int32) (l3 : Int32) : x1_addWord_G s g0 l1 l2 l3 = t_x1_addWord [some (.inr (.inr (some (1, g0)))), some (.inl l1), some (.inl l2), some (.inl l3)] [] s := rfl
noncomputable def x1_dropWord_b11_G (K11 : Sg → Nat → Int32 → Option Sg) (s : Sg) (g0 : Nat) (l2 : Int32) : Option Sg :=
  gif (((l2 + 1) : Int32) < (rI s 1 g0 7)) (
    gif (((l2 + 1) : Int32) < 12) (
      gd (inb (l2 + 1) 12) (
      gd (inb l2 12) (
      let s1 := wI s 12 g0 (ix l2) (rI s 12 g0 (ix (l2 + 1)))
      gd (inb (l2 + 1) 12) (
      gd (inb l2 12) (
      let s2 := wI s1 13 g0 (ix l2) (rI s1 13 g0 (ix (l2 + 1)))
      gd (inb (l2 + 1) 12) (
      gd (inb l2 12) (
      let s3 := wI s2 14 g0 (ix l2) (rI s2 14 g0 (ix (l2 + 1)))
      K11 s3 g0 (l2 + 1))))))))
    (
      let s4 := wI s 1 g0 7 ((rI s 1 g0 7) - 1)
      some s4))
  (
    let s5 := wI s 1 g0 7 ((rI s 1 g0 7) - 1)
    some s5)
noncomputable def x1_dropWord_b11 : Nat → Sg → Nat → Int32 → Option Sg
  | 0 => fun _ _ _ => none
  | n + 1 => x1_dropWord_b11_G (x1_dropWord_b11 n)
noncomputable def t_x1_dropWord_b11 (K11 : Sg → Nat → Int32 → Option Sg) : Bk Sg := (s_ldI 2 (s_ic 1 (s_bin (fun x y => x + y) (s_ldA 0 (s_getI 1 7 (s_clt
  (s_ldI 2 (s_ic 1 (s_bin (fun x y => x + y) (s_ic 12 (s_clt
    (s_ldA 0 (s_getRv 1 0 12 (s_ldI 2 (s_ldA 0 (s_getRv 1 0 12 (s_ldI 2 (s_ic 1 (s_bin (fun x y => x + y) (s_iald 12 12 (s_iast 12 12 (s_ldA 0 (s_getRv 1 1 13 (s_ldI 2 (s_ldA 0 (s_getRv 1 1 13 (s_ldI 2 (s_ic 1 (s_bin (fun x y => x + y) (s_iald 13 12 (s_iast 13 12 (s_ldA 0 (s_getRv 1 2 14 (s_ldI 2 (s_ldA 0 (s_getRv 1 2 14 (s_ldI 2 (s_ic 1 (s_bin (fun x y => x + y) (s_iald 14 12 (s_iast 14 12 (s_inc 2 1 (s_goto (p_R 0 1 fun a0 => p_I 2 fun a2 => p_E fun s => K11 s a0 a2)))))))))))))))))))))))))))))))))
    (s_ldA 0 (s_dup (s_getI 1 7 (s_ic 1 (s_bin (fun x y => x - y) (s_putI 1 7 (s_vret retV))))))))))))
  (s_ldA 0 (s_dup (s_getI 1 7 (s_ic 1 (s_bin (fun x y => x - y) (s_putI 1 7 (s_vret retV)))))))))))))
set_option maxRecDepth 20000 in
theorem e_x1_dropWord_b11 (K11 : Sg → Nat → Int32 → Option Sg) (s : Sg) (g0 : Nat) (l2 : Int32) : x1_dropWord_b11_G K11 s g0 l2 = t_x1_dropWord_b11 K11 [some (.inr (.inr (some (1, g0)))), none, some (.inl l2)] [] s := rfl
noncomputable def x1_dropWord_G (K11 : Sg → Nat → Int32 → Option Sg) (c_x1_has : Sg → Nat → Int32 → Option (Sg × Int32)) (s : Sg) (g0 : Nat) (l1 : Int32) : Option Sg :=
  (c_x1_has s g0 l1).bind fun q1 => (
  gif ((q1.2 : Int32) = 0) (
    some q1.1)
  (
    K11 q1.1 g0 l1))
noncomputable def x1_dropWord : Sg → Nat → Int32 → Option Sg := x1_dropWord_G (x1_dropWord_b11 FU) x1_has
noncomputable def t_x1_dropWord (K11 : Sg → Nat → Int32 → Option Sg) (c_x1_has : Sg → Nat → Int32 → Option (Sg × Int32)) : Bk Sg := (s_ldA 0 (s_ldI 1 (s_call (FW_x1_has c_x1_has) 2 (s_eq0
  (s_vret retV)
  (s_ldI 1 (s_stI 2 (p_R 0 1 fun a0 => p_I 2 fun a2 => p_E fun s => K11 s a0 a2)))))))
set_option maxRecDepth 20000 in
theorem e_x1_dropWord (K11 : Sg → Nat → Int32 → Option Sg) (c_x1_has : Sg → Nat → Int32 → Option (Sg × Int32)) (s : Sg) (g0 : Nat) (l1 : Int32) : x1_dropWord_G K11 c_x1_has s g0 l1 = t_x1_dropWord K11 c_x1_has [some (.inr (.inr (some (1, g0)))), some (.inl l1), none] [] s := rfl
noncomputable def x1_canForce_G (s : Sg) (g0 : Nat) (l1 : Int32) : Option (Sg × Int32) :=
  gif ((l1 : Int32) < (-1)) (
    gd (isB 0) (some (s, 0)))
  (
    gif ((l1 : Int32) < (rI s 1 g0 11)) (
      gd (isB 1) (some (s, 1)))
    (
      gd (isB 0) (some (s, 0))))
noncomputable def x1_canForce : Sg → Nat → Int32 → Option (Sg × Int32) := x1_canForce_G
noncomputable def t_x1_canForce : Bk (Sg × Int32) := (s_ldI 1 (s_ic (-1) (s_clt
  (s_ic 0 (s_zret retI))
  (s_ldI 1 (s_ldA 0 (s_getI 1 11 (s_clt
    (s_ic 1 (s_goto (s_zret retI)))
    (s_ic 0 (s_zret retI)))))))))
set_option maxRecDepth 20000 in
theorem e_x1_canForce (s : Sg) (g0 : Nat) (l1 : Int32) : x1_canForce_G s g0 l1 = t_x1_canForce [some (.inr (.inr (some (1, g0)))), some (.inl l1)] [] s := rfl
noncomputable def x3_takeBack_G (c_x1_carryOutIfItCanBe : Sg → Nat → Int32 → Int32 → Int32 → Option Sg) (s : Sg) (g0 : Nat) (g1 : Nat) : Option (Sg × Int32) :=
  gif ((0 : Int32) < (rI s 3 g0 3)) (
    gif ((16 : Int32) < (rI s 3 g0 3)) (
      some (s, (-1)))
    (
      let s1 := wI s 3 g0 3 ((rI s 3 g0 3) - 1)
      gd (inb (rI s1 3 g0 3) 16) (
      gif (((rI s1 20 g0 (ix (rI s1 3 g0 3))) : Int32) = 3) (
        gd (inb 0 4) (
        gd (inb 0 4) (
        let s2 := wI s1 15 g1 (ix 0) ((rI s1 15 g1 (ix 0)) - 1)
        gd (inb (rI s2 3 g0 3) 16) (
        some (s2, (rI s2 20 g0 (ix (rI s2 3 g0 3))))))))
      (
        gd (inb (rI s1 3 g0 3) 16) (
        gd (inb (rI s1 3 g0 3) 16) (
        gd (inb (rI s1 3 g0 3) 16) (
        (c_x1_carryOutIfItCanBe s1 g1 (rI s1 20 g0 (ix (rI s1 3 g0 3))) (rI s1 21 g0 (ix (rI s1 3 g0 3))) (rI s1 22 g0 (ix (rI s1 3 g0 3)))).bind fun s3 => (
        gd (inb (rI s3 3 g0 3) 16) (
        some (s3, (rI s3 20 g0 (ix (rI s3 3 g0 3)))))))))))))
  (
    some (s, (-1)))
noncomputable def x3_takeBack : Sg → Nat → Nat → Option (Sg × Int32) := x3_takeBack_G x1_carryOutIfItCanBe
noncomputable def t_x3_takeBack (c_x1_carryOutIfItCanBe : Sg → Nat → Int32 → Int32 → Int32 → Option Sg) : Bk (Sg × Int32) := (s_ldA 0 (s_getI 3 3 (s_gt0
  (s_ldA 0 (s_getI 3 3 (s_ic 16 (s_cgt
    (s_ic (-1) (s_iret retI))
    (s_ldA 0 (s_dup (s_getI 3 3 (s_ic 1 (s_bin (fun x y => x - y) (s_putI 3 3 (s_ldA 0 (s_getRv 3 0 20 (s_ldA 0 (s_getI 3 3 (s_iald 20 16 (s_ic 3 (s_ceq
      (s_ldA 1 (s_getRv 1 3 15 (s_ic 0 (s_dup2 (s_iald 15 4 (s_ic 1 (s_bin (fun x y => x - y) (s_iast 15 4 (s_goto (s_ldA 0 (s_getRv 3 0 20 (s_ldA 0 (s_getI 3 3 (s_iald 20 16 (s_iret retI)))))))))))))))
      (s_ldA 1 (s_ldA 0 (s_getRv 3 0 20 (s_ldA 0 (s_getI 3 3 (s_iald 20 16 (s_ldA 0 (s_getRv 3 1 21 (s_ldA 0 (s_getI 3 3 (s_iald 21 16 (s_ldA 0 (s_getRv 3 2 22 (s_ldA 0 (s_getI 3 3 (s_iald 22 16 (s_call (FW_x1_carryOutIfItCanBe c_x1_carryOutIfItCanBe) 4 (s_ldA 0 (s_getRv 3 0 20 (s_ldA 0 (s_getI 3 3 (s_iald 20 16 (s_iret retI))))))))))))))))))))))))))))))))))))))))
  (s_ic (-1) (s_iret retI)))))
set_option maxRecDepth 20000 in
theorem e_x3_takeBack (c_x1_carryOutIfItCanBe : Sg → Nat → Int32 → Int32 → Int32 → Option Sg) (s : Sg) (g0 : Nat) (g1 : Nat) : x3_takeBack_G c_x1_carryOutIfItCanBe s g0 g1 = t_x3_takeBack c_x1_carryOutIfItCanBe [some (.inr (.inr (some (3, g0)))), some (.inr (.inr (some (1, g1))))] [] s := rfl
noncomputable def x5_slot_G (s : Sg) (l0 : Int32) (l1 : Int32) : Option (Sg × Int32) :=
  gif ((l0 : Int32) < (-1)) (
    some (s, (-1)))
  (
    gif ((l0 : Int32) < 24) (
      gif ((l1 : Int32) < 0) (
        some (s, (-1)))
      (
        gif ((l1 : Int32) < 25) (
          some (s, (((l0 + 1) * 25) + l1)))
        (
          some (s, (-1)))))
    (
      some (s, (-1))))
noncomputable def x5_slot : Sg → Int32 → Int32 → Option (Sg × Int32) := x5_slot_G
noncomputable def t_x5_slot : Bk (Sg × Int32) := (s_ldI 0 (s_ic (-1) (s_clt
  (s_ic (-1) (s_iret retI))
  (s_ldI 0 (s_ic 24 (s_clt
    (s_ldI 1 (s_lt0
      (s_ic (-1) (s_iret retI))
      (s_ldI 1 (s_ic 25 (s_clt
        (s_ldI 0 (s_ic 1 (s_bin (fun x y => x + y) (s_ic 25 (s_bin (fun x y => x * y) (s_ldI 1 (s_bin (fun x y => x + y) (s_iret retI))))))))
        (s_ic (-1) (s_iret retI)))))))
    (s_ic (-1) (s_iret retI))))))))
set_option maxRecDepth 20000 in
theorem e_x5_slot (s : Sg) (l0 : Int32) (l1 : Int32) : x5_slot_G s l0 l1 = t_x5_slot [some (.inl l0), some (.inl l1)] [] s := rfl
noncomputable def x5_isBetter_G (s : Sg) (l1 : Int32) (l2 : Int32) (l3 : Int32) : Option (Sg × Int32) :=
  gd (inb l3 625) (
  gif ((l1 : Int32) = (rI s 24 0 (ix l3))) (
    gd (inb l3 625) (
    gif ((((l2 &&& (l2 ^^^ (rI s 26 0 (ix l3)))) &&& (-(l2 ^^^ (rI s 26 0 (ix l3))))) : Int32) = 0) (
      gd (isB 0) (some (s, 0)))
    (
      gd (isB 1) (some (s, 1)))))
  (
    gd (inb l3 625) (
    gif ((l1 : Int32) < (rI s 24 0 (ix l3))) (
      gd (isB 1) (some (s, 1)))
    (
      gd (isB 0) (some (s, 0))))))
noncomputable def x5_isBetter : Sg → Int32 → Int32 → Int32 → Option (Sg × Int32) := x5_isBetter_G
noncomputable def t_x5_isBetter : Bk (Sg × Int32) := (s_ldI 1 (s_ldA 0 (s_getRc 5 0 24 0 (s_ldI 3 (s_iald 24 625 (s_ceq
  (s_ldI 2 (s_ldA 0 (s_getRc 5 2 26 0 (s_ldI 3 (s_iald 26 625 (s_bin (fun x y => x ^^^ y) (s_stI 4 (s_ldI 2 (s_ldI 4 (s_bin (fun x y => x &&& y) (s_ldI 4 (s_neg (s_bin (fun x y => x &&& y) (s_eq0
    (s_ic 0 (s_zret retI))
    (s_ic 1 (s_goto (s_zret retI)))))))))))))))))
  (s_ldI 1 (s_ldA 0 (s_getRc 5 0 24 0 (s_ldI 3 (s_iald 24 625 (s_clt
    (s_ic 1 (s_goto (s_zret retI)))
    (s_ic 0 (s_zret retI))))))))))))))
set_option maxRecDepth 20000 in
theorem e_x5_isBetter (s : Sg) (l1 : Int32) (l2 : Int32) (l3 : Int32) : x5_isBetter_G s l1 l2 l3 = t_x5_isBetter [some (.inr (.inr (some (5, 0)))), some (.inl l1), some (.inl l2), some (.inl l3), none] [] s := rfl
noncomputable def x5_join_b82_G (s : Sg) (l1 : Int32) (l2 : Int32) (l5 : Int32) : Option Sg :=
  gd (inb l1 625) (
  gif ((l5 : Int32) = 0) (
    gd (inb l2 625) (
    gd (inb l2 625) (
    let s1 := wI s 25 0 (ix l2) (g_max ((rI s 25 0 (ix l1)) + (rI s 2 1 6)) (rI s 25 0 (ix l2)))
    gd (inb l2 625) (
    gd (inb l1 625) (
    gd (inb l2 625) (
    let s2 := wL s1 27 0 (ix l2) ((rL s1 27 0 (ix l2)) + (rL s1 27 0 (ix l1)))
    some s2))))))
  (
    gd (inb l2 625) (
    let s3 := wI s 25 0 (ix l2) ((rI s 25 0 (ix l1)) + (rI s 2 1 6))
    gd (inb l2 625) (
    gd (inb l1 625) (
    gd (inb l2 625) (
    let s4 := wL s3 27 0 (ix l2) ((rL s3 27 0 (ix l2)) + (rL s3 27 0 (ix l1)))
    some s4))))))
noncomputable def x5_join_b82 : Sg → Int32 → Int32 → Int32 → Option Sg := x5_join_b82_G
noncomputable def t_x5_join_b82 : Bk Sg := (s_ldA 0 (s_getRc 5 1 25 0 (s_ldI 1 (s_iald 25 625 (s_ldA 0 (s_getRc 5 4 2 1 (s_getI 2 6 (s_bin (fun x y => x + y) (s_stI 6 (s_ldA 0 (s_getRc 5 1 25 0 (s_ldI 2 (s_ldI 5 (s_eq0
  (s_ldI 6 (s_ldA 0 (s_getRc 5 1 25 0 (s_ldI 2 (s_iald 25 625 (s_m2 g_max (s_iast 25 625 (s_ldA 0 (s_getRc 5 3 27 0 (s_ldI 2 (s_dup2 (s_lald 27 625 (s_ldA 0 (s_getRc 5 3 27 0 (s_ldI 1 (s_lald 27 625 (s_lbin (fun x y => x + y) (s_last 27 625 (s_vret retV)))))))))))))))))))
  (s_ldI 6 (s_goto (s_iast 25 625 (s_ldA 0 (s_getRc 5 3 27 0 (s_ldI 2 (s_dup2 (s_lald 27 625 (s_ldA 0 (s_getRc 5 3 27 0 (s_ldI 1 (s_lald 27 625 (s_lbin (fun x y => x + y) (s_last 27 625 (s_vret retV)))))))))))))))))))))))))))))
set_option maxRecDepth 20000 in
theorem e_x5_join_b82 (s : Sg) (l1 : Int32) (l2 : Int32) (l5 : Int32) : x5_join_b82_G s l1 l2 l5 = t_x5_join_b82 [some (.inr (.inr (some (5, 0)))), some (.inl l1), some (.inl l2), none, none, some (.inl l5), none] [] s := rfl
noncomputable def x5_join_b49_G (K82 : Sg → Int32 → Int32 → Int32 → Option Sg) (c_x5_isBetter : Sg → Int32 → Int32 → Int32 → Option (Sg × Int32)) (s : Sg) (l1 : Int32) (l2 : Int32) (l3 : Int32) (l4 : Int32) (y0 : Int32) : Option Sg :=
  gif ((y0 : Int32) = 0) (
    (c_x5_isBetter s l3 l4 l2).bind fun q1 => (
    gif ((q1.2 : Int32) = 0) (
      K82 q1.1 l1 l2 y0)
    (
      gd (inb l2 625) (
      let s2 := wI q1.1 24 0 (ix l2) l3
      gd (inb l2 625) (
      let s3 := wI s2 26 0 (ix l2) l4
      K82 s3 l1 l2 y0)))))
  (
    gd (inb l2 625) (
    let s4 := wI s 24 0 (ix l2) l3
    gd (inb l2 625) (
    let s5 := wI s4 26 0 (ix l2) l4
    K82 s5 l1 l2 y0)))
noncomputable def x5_join_b49 : Sg → Int32 → Int32 → Int32 → Int32 → Int32 → Option Sg := x5_join_b49_G (x5_join_b82) x5_isBetter
noncomputable def t_x5_join_b49 (K82 : Sg → Int32 → Int32 → Int32 → Option Sg) (c_x5_isBetter : Sg → Int32 → Int32 → Int32 → Option (Sg × Int32)) : Bk Sg := (s_stI 5 (s_ldI 5 (s_eq0
  (s_ldA 0 (s_ldI 3 (s_ldI 4 (s_ldI 2 (s_call (FW_x5_isBetter c_x5_isBetter) 4 (s_eq0
    (p_C 0 5 0 <| p_I 1 fun a1 => p_I 2 fun a2 => p_I 5 fun a5 => p_E fun s => K82 s a1 a2 a5)
    (s_ldA 0 (s_getRc 5 0 24 0 (s_ldI 2 (s_ldI 3 (s_iast 24 625 (s_ldA 0 (s_getRc 5 2 26 0 (s_ldI 2 (s_ldI 4 (s_iast 26 625 (p_C 0 5 0 <| p_I 1 fun a1 => p_I 2 fun a2 => p_I 5 fun a5 => p_E fun s => K82 s a1 a2 a5)))))))))))))))))
  (s_ldA 0 (s_getRc 5 0 24 0 (s_ldI 2 (s_ldI 3 (s_iast 24 625 (s_ldA 0 (s_getRc 5 2 26 0 (s_ldI 2 (s_ldI 4 (s_iast 26 625 (p_C 0 5 0 <| p_I 1 fun a1 => p_I 2 fun a2 => p_I 5 fun a5 => p_E fun s => K82 s a1 a2 a5))))))))))))))
set_option maxRecDepth 20000 in
theorem e_x5_join_b49 (K82 : Sg → Int32 → Int32 → Int32 → Option Sg) (c_x5_isBetter : Sg → Int32 → Int32 → Int32 → Option (Sg × Int32)) (s : Sg) (l1 : Int32) (l2 : Int32) (l3 : Int32) (l4 : Int32) (y0 : Int32) : x5_join_b49_G K82 c_x5_isBetter s l1 l2 l3 l4 y0 = t_x5_join_b49 K82 c_x5_isBetter [some (.inr (.inr (some (5, 0)))), some (.inl l1), some (.inl l2), some (.inl l3), some (.inl l4), none, none] [.inl y0] s := rfl
noncomputable def x5_join_G (K49 : Sg → Int32 → Int32 → Int32 → Int32 → Int32 → Option Sg) (s : Sg) (l1 : Int32) (l2 : Int32) : Option Sg :=
  gd (inb l1 625) (
  gd (inb l1 625) (
  gd (inb l2 625) (
  gif (((lg_cmp (rL s 27 0 (ix l2)) 0) : Int32) = 0) (
    K49 s l1 l2 ((rI s 24 0 (ix l1)) + (rI s 2 1 5)) ((rI s 26 0 (ix l1)) ||| (1 <<< ((rI s 2 1 2) &&& 31))) 1)
  (
    K49 s l1 l2 ((rI s 24 0 (ix l1)) + (rI s 2 1 5)) ((rI s 26 0 (ix l1)) ||| (1 <<< ((rI s 2 1 2) &&& 31))) 0))))
noncomputable def x5_join : Sg → Int32 → Int32 → Option Sg := x5_join_G (x5_join_b49)
noncomputable def t_x5_join (K49 : Sg → Int32 → Int32 → Int32 → Int32 → Int32 → Option Sg) : Bk Sg := (s_ldA 0 (s_getRc 5 0 24 0 (s_ldI 1 (s_iald 24 625 (s_ldA 0 (s_getRc 5 4 2 1 (s_getI 2 5 (s_bin (fun x y => x + y) (s_stI 3 (s_ldA 0 (s_getRc 5 2 26 0 (s_ldI 1 (s_iald 26 625 (s_ic 1 (s_ldA 0 (s_getRc 5 4 2 1 (s_getI 2 2 (s_bin (fun x y => x <<< (y &&& 31)) (s_bin (fun x y => x ||| y) (s_stI 4 (s_ldA 0 (s_getRc 5 3 27 0 (s_ldI 2 (s_lald 27 625 (s_lc 0 (s_lcmp (s_eq0
  (s_ic 1 (s_goto (p_C 0 5 0 <| p_I 1 fun a1 => p_I 2 fun a2 => p_I 3 fun a3 => p_I 4 fun a4 => q_I fun b0 => p_E fun s => K49 s a1 a2 a3 a4 b0)))
  (s_ic 0 (p_C 0 5 0 <| p_I 1 fun a1 => p_I 2 fun a2 => p_I 3 fun a3 => p_I 4 fun a4 => q_I fun b0 => p_E fun s => K49 s a1 a2 a3 a4 b0)))))))))))))))))))))))))))))
set_option maxRecDepth 20000 in
theorem e_x5_join (K49 : Sg → Int32 → Int32 → Int32 → Int32 → Int32 → Option Sg) (s : Sg) (l1 : Int32) (l2 : Int32) : x5_join_G K49 s l1 l2 = t_x5_join K49 [some (.inr (.inr (some (5, 0)))), some (.inl l1), some (.inl l2), none, none, none, none] [] s := rfl
