noncomputable def x5_layLine_b81_G (K6 : Sg → Nat → Nat → Int32 → Int32 → Int32 → Int32 → Int32 → Option Sg) (c_x2_judge : Sg → Nat → Nat → Nat → Int32 → Int32 → Int32 → Option Sg) (c_x5_join : Sg → Int32 → Int32 → Option Sg) (s : Sg) (g1 : Nat) (g2 : Nat) (l3 : Int32) (l4 : Int32) (l5 : Int32) (l7 : Int32) (l8 : Int32) (l9 : Int32) : Option Sg :=
  match g2 with
  | 0 => (
    (c_x2_judge s 1 g1 0 l3 l7 l5).bind fun s1 => (
    gif (((rI s1 2 1 8) : Int32) = 0) (
      K6 s1 g1 0 l3 l4 l5 1 (l7 + 1))
    (
      (c_x5_join s1 l8 l9).bind fun s2 => (
      K6 s2 g1 0 l3 l4 l5 1 (l7 + 1)))))
  | t + 1 => (
    (c_x2_judge s 1 g1 (t + 1) l3 l7 l5).bind fun s3 => (
    gif (((rI s3 2 1 8) : Int32) = 0) (
      K6 s3 g1 (t + 1) l3 l4 l5 1 (l7 + 1))
    (
      (c_x5_join s3 l8 l9).bind fun s4 => (
      K6 s4 g1 (t + 1) l3 l4 l5 1 (l7 + 1)))))
noncomputable def x5_layLine_b81 (K6 : Sg → Nat → Nat → Int32 → Int32 → Int32 → Int32 → Int32 → Option Sg) : Sg → Nat → Nat → Int32 → Int32 → Int32 → Int32 → Int32 → Int32 → Option Sg := x5_layLine_b81_G K6 x2_judge x5_join
noncomputable def t_x5_layLine_b81 (K6 : Sg → Nat → Nat → Int32 → Int32 → Int32 → Int32 → Int32 → Option Sg) (c_x2_judge : Sg → Nat → Nat → Nat → Int32 → Int32 → Int32 → Option Sg) (c_x5_join : Sg → Int32 → Int32 → Option Sg) : Bk Sg := (s_ldA 0 (s_getRc 5 4 2 1 (s_ldA 1 (s_ldA 2 (s_ldI 3 (s_ldI 7 (s_ldI 5 (s_call (FW_x2_judge c_x2_judge) 6 (s_ic 1 (s_stI 6 (s_ldA 0 (s_getRc 5 4 2 1 (s_getI 2 8 (s_eq0
  (s_inc 7 1 (s_goto (p_C 0 5 0 <| p_R 1 1 fun a1 => p_N 2 fun a2 => p_I 3 fun a3 => p_I 4 fun a4 => p_I 5 fun a5 => p_I 6 fun a6 => p_I 7 fun a7 => p_E fun s => K6 s a1 a2 a3 a4 a5 a6 a7)))
  (s_ldA 0 (s_ldI 8 (s_ldI 9 (s_call (FW_x5_join c_x5_join) 3 (s_inc 7 1 (s_goto (p_C 0 5 0 <| p_R 1 1 fun a1 => p_N 2 fun a2 => p_I 3 fun a3 => p_I 4 fun a4 => p_I 5 fun a5 => p_I 6 fun a6 => p_I 7 fun a7 => p_E fun s => K6 s a1 a2 a3 a4 a5 a6 a7)))))))))))))))))))))
set_option maxRecDepth 20000 in
theorem e_x5_layLine_b81 (K6 : Sg → Nat → Nat → Int32 → Int32 → Int32 → Int32 → Int32 → Option Sg) (c_x2_judge : Sg → Nat → Nat → Nat → Int32 → Int32 → Int32 → Option Sg) (c_x5_join : Sg → Int32 → Int32 → Option Sg) (s : Sg) (g1 : Nat) (g2 : Nat) (l3 : Int32) (l4 : Int32) (l5 : Int32) (l7 : Int32) (l8 : Int32) (l9 : Int32) : x5_layLine_b81_G K6 c_x2_judge c_x5_join s g1 g2 l3 l4 l5 l7 l8 l9 = t_x5_layLine_b81 K6 c_x2_judge c_x5_join [some (.inr (.inr (some (5, 0)))), some (.inr (.inr (some (1, g1)))), some (g_nt g2), some (.inl l3), some (.inl l4), some (.inl l5), none, some (.inl l7), some (.inl l8), some (.inl l9)] [] s := by cases g2 <;> rfl
noncomputable def x5_layLine_b6_G (K6 : Sg → Nat → Nat → Int32 → Int32 → Int32 → Int32 → Int32 → Option Sg) (K81 : Sg → Nat → Nat → Int32 → Int32 → Int32 → Int32 → Int32 → Int32 → Option Sg) (c_x5_slot : Sg → Int32 → Int32 → Option (Sg × Int32)) (c_x5_join : Sg → Int32 → Int32 → Option Sg) (s : Sg) (g1 : Nat) (g2 : Nat) (l3 : Int32) (l4 : Int32) (l5 : Int32) (l6 : Int32) (l7 : Int32) : Option Sg :=
  match g2 with
  | 0 => (
    gif ((l7 : Int32) < 24) (
      (c_x5_slot s l4 l7).bind fun q1 => (
      (c_x5_slot q1.1 (rI q1.1 2 1 2) (l7 + 1)).bind fun q2 => (
      gif ((q1.2 : Int32) = (-1)) (
        K6 q2.1 g1 0 l3 l4 l5 l6 (l7 + 1))
      (
        gif ((q2.2 : Int32) = (-1)) (
          K6 q2.1 g1 0 l3 l4 l5 l6 (l7 + 1))
        (
          gd (inb q1.2 625) (
          gif (((lg_cmp (rL q2.1 27 0 (ix q1.2)) 0) : Int32) = 0) (
            K6 q2.1 g1 0 l3 l4 l5 l6 (l7 + 1))
          (
            gif ((l6 : Int32) = 0) (
              K81 q2.1 g1 0 l3 l4 l5 l7 q1.2 q2.2)
            (
              gif (((rI q2.1 2 1 8) : Int32) = 0) (
                K6 q2.1 g1 0 l3 l4 l5 l6 (l7 + 1))
              (
                (c_x5_join q2.1 q1.2 q2.2).bind fun s3 => (
                K6 s3 g1 0 l3 l4 l5 l6 (l7 + 1)))))))))))
    (
      some s))
  | t + 1 => (
    gif ((l7 : Int32) < 24) (
      (c_x5_slot s l4 l7).bind fun q4 => (
      (c_x5_slot q4.1 (rI q4.1 2 1 2) (l7 + 1)).bind fun q5 => (
      gif ((q4.2 : Int32) = (-1)) (
        K6 q5.1 g1 (t + 1) l3 l4 l5 l6 (l7 + 1))
      (
        gif ((q5.2 : Int32) = (-1)) (
          K6 q5.1 g1 (t + 1) l3 l4 l5 l6 (l7 + 1))
        (
          gd (inb q4.2 625) (
          gif (((lg_cmp (rL q5.1 27 0 (ix q4.2)) 0) : Int32) = 0) (
            K6 q5.1 g1 (t + 1) l3 l4 l5 l6 (l7 + 1))
          (
            gif ((l6 : Int32) = 0) (
              K81 q5.1 g1 (t + 1) l3 l4 l5 l7 q4.2 q5.2)
            (
              gif (((rI q5.1 8 t 8) : Int32) = 0) (
                gif (((rI q5.1 2 1 8) : Int32) = 0) (
                  K6 q5.1 g1 (t + 1) l3 l4 l5 l6 (l7 + 1))
                (
                  (c_x5_join q5.1 q4.2 q5.2).bind fun s6 => (
                  K6 s6 g1 (t + 1) l3 l4 l5 l6 (l7 + 1))))
              (
                K81 q5.1 g1 (t + 1) l3 l4 l5 l7 q4.2 q5.2)))))))))
    (
      some s))
noncomputable def x5_layLine_b6 : Nat → Sg → Nat → Nat → Int32 → Int32 → Int32 → Int32 → Int32 → Option Sg
  | 0 => fun _ _ _ _ _ _ _ _ => none
  | n + 1 => x5_layLine_b6_G (x5_layLine_b6 n) (x5_layLine_b81 (x5_layLine_b6 n)) x5_slot x5_join
noncomputable def t_x5_layLine_b6 (K6 : Sg → Nat → Nat → Int32 → Int32 → Int32 → Int32 → Int32 → Option Sg) (K81 : Sg → Nat → Nat → Int32 → Int32 → Int32 → Int32 → Int32 → Int32 → Option Sg) (c_x5_slot : Sg → Int32 → Int32 → Option (Sg × Int32)) (c_x5_join : Sg → Int32 → Int32 → Option Sg) : Bk Sg := (s_ldI 7 (s_ic 24 (s_clt
  (s_ldI 4 (s_ldI 7 (s_call (FW_x5_slot c_x5_slot) 2 (s_stI 8 (s_ldA 0 (s_getRc 5 4 2 1 (s_getI 2 2 (s_ldI 7 (s_ic 1 (s_bin (fun x y => x + y) (s_call (FW_x5_slot c_x5_slot) 2 (s_stI 9 (s_ldI 8 (s_ic (-1) (s_ceq
    (s_inc 7 1 (s_goto (p_C 0 5 0 <| p_R 1 1 fun a1 => p_N 2 fun a2 => p_I 3 fun a3 => p_I 4 fun a4 => p_I 5 fun a5 => p_I 6 fun a6 => p_I 7 fun a7 => p_E fun s => K6 s a1 a2 a3 a4 a5 a6 a7)))
    (s_ldI 9 (s_ic (-1) (s_ceq
      (s_inc 7 1 (s_goto (p_C 0 5 0 <| p_R 1 1 fun a1 => p_N 2 fun a2 => p_I 3 fun a3 => p_I 4 fun a4 => p_I 5 fun a5 => p_I 6 fun a6 => p_I 7 fun a7 => p_E fun s => K6 s a1 a2 a3 a4 a5 a6 a7)))
      (s_ldA 0 (s_getRc 5 3 27 0 (s_ldI 8 (s_lald 27 625 (s_lc 0 (s_lcmp (s_eq0
        (s_goto (s_inc 7 1 (s_goto (p_C 0 5 0 <| p_R 1 1 fun a1 => p_N 2 fun a2 => p_I 3 fun a3 => p_I 4 fun a4 => p_I 5 fun a5 => p_I 6 fun a6 => p_I 7 fun a7 => p_E fun s => K6 s a1 a2 a3 a4 a5 a6 a7))))
        (s_ldI 6 (s_eq0
          (p_C 0 5 0 <| p_R 1 1 fun a1 => p_N 2 fun a2 => p_I 3 fun a3 => p_I 4 fun a4 => p_I 5 fun a5 => p_I 7 fun a7 => p_I 8 fun a8 => p_I 9 fun a9 => p_E fun s => K81 s a1 a2 a3 a4 a5 a7 a8 a9)
          (s_ldA 2 (s_null0
            (s_ldA 0 (s_getRc 5 4 2 1 (s_getI 2 8 (s_eq0
              (s_inc 7 1 (s_goto (p_C 0 5 0 <| p_R 1 1 fun a1 => p_N 2 fun a2 => p_I 3 fun a3 => p_I 4 fun a4 => p_I 5 fun a5 => p_I 6 fun a6 => p_I 7 fun a7 => p_E fun s => K6 s a1 a2 a3 a4 a5 a6 a7)))
              (s_ldA 0 (s_ldI 8 (s_ldI 9 (s_call (FW_x5_join c_x5_join) 3 (s_inc 7 1 (s_goto (p_C 0 5 0 <| p_R 1 1 fun a1 => p_N 2 fun a2 => p_I 3 fun a3 => p_I 4 fun a4 => p_I 5 fun a5 => p_I 6 fun a6 => p_I 7 fun a7 => p_E fun s => K6 s a1 a2 a3 a4 a5 a6 a7)))))))))))
            (s_ldA 2 (s_getI 8 8 (s_eq0
              (s_ldA 0 (s_getRc 5 4 2 1 (s_getI 2 8 (s_eq0
                (s_inc 7 1 (s_goto (p_C 0 5 0 <| p_R 1 1 fun a1 => p_N 2 fun a2 => p_I 3 fun a3 => p_I 4 fun a4 => p_I 5 fun a5 => p_I 6 fun a6 => p_I 7 fun a7 => p_E fun s => K6 s a1 a2 a3 a4 a5 a6 a7)))
                (s_ldA 0 (s_ldI 8 (s_ldI 9 (s_call (FW_x5_join c_x5_join) 3 (s_inc 7 1 (s_goto (p_C 0 5 0 <| p_R 1 1 fun a1 => p_N 2 fun a2 => p_I 3 fun a3 => p_I 4 fun a4 => p_I 5 fun a5 => p_I 6 fun a6 => p_I 7 fun a7 => p_E fun s => K6 s a1 a2 a3 a4 a5 a6 a7)))))))))))
              (p_C 0 5 0 <| p_R 1 1 fun a1 => p_N 2 fun a2 => p_I 3 fun a3 => p_I 4 fun a4 => p_I 5 fun a5 => p_I 7 fun a7 => p_I 8 fun a8 => p_I 9 fun a9 => p_E fun s => K81 s a1 a2 a3 a4 a5 a7 a8 a9)))))))))))))))))))))))))))))))))
  (s_vret retV))))
set_option maxRecDepth 20000 in
theorem e_x5_layLine_b6 (K6 : Sg → Nat → Nat → Int32 → Int32 → Int32 → Int32 → Int32 → Option Sg) (K81 : Sg → Nat → Nat → Int32 → Int32 → Int32 → Int32 → Int32 → Int32 → Option Sg) (c_x5_slot : Sg → Int32 → Int32 → Option (Sg × Int32)) (c_x5_join : Sg → Int32 → Int32 → Option Sg) (s : Sg) (g1 : Nat) (g2 : Nat) (l3 : Int32) (l4 : Int32) (l5 : Int32) (l6 : Int32) (l7 : Int32) : x5_layLine_b6_G K6 K81 c_x5_slot c_x5_join s g1 g2 l3 l4 l5 l6 l7 = t_x5_layLine_b6 K6 K81 c_x5_slot c_x5_join [some (.inr (.inr (some (5, 0)))), some (.inr (.inr (some (1, g1)))), some (g_nt g2), some (.inl l3), some (.inl l4), some (.inl l5), some (.inl l6), some (.inl l7), none, none] [] s := by cases g2 <;> rfl
noncomputable def x5_layLine_G (K6 : Sg → Nat → Nat → Int32 → Int32 → Int32 → Int32 → Int32 → Option Sg) (s : Sg) (g1 : Nat) (g2 : Nat) (l3 : Int32) (l4 : Int32) (l5 : Int32) : Option Sg :=
  match g2 with
  | 0 => (
    K6 s g1 0 l3 l4 l5 0 0)
  | t + 1 => (
    K6 s g1 (t + 1) l3 l4 l5 0 0)
noncomputable def x5_layLine : Sg → Nat → Nat → Int32 → Int32 → Int32 → Option Sg := x5_layLine_G (x5_layLine_b6 FU)
noncomputable def t_x5_layLine (K6 : Sg → Nat → Nat → Int32 → Int32 → Int32 → Int32 → Int32 → Option Sg) : Bk Sg := (s_ic 0 (s_stI 6 (s_ic 0 (s_stI 7 (p_C 0 5 0 <| p_R 1 1 fun a1 => p_N 2 fun a2 => p_I 3 fun a3 => p_I 4 fun a4 => p_I 5 fun a5 => p_I 6 fun a6 => p_I 7 fun a7 => p_E fun s => K6 s a1 a2 a3 a4 a5 a6 a7)))))
set_option maxRecDepth 20000 in
theorem e_x5_layLine (K6 : Sg → Nat → Nat → Int32 → Int32 → Int32 → Int32 → Int32 → Option Sg) (s : Sg) (g1 : Nat) (g2 : Nat) (l3 : Int32) (l4 : Int32) (l5 : Int32) : x5_layLine_G K6 s g1 g2 l3 l4 l5 = t_x5_layLine K6 [some (.inr (.inr (some (5, 0)))), some (.inr (.inr (some (1, g1)))), some (g_nt g2), some (.inl l3), some (.inl l4), some (.inl l5), none, none, none, none] [] s := by cases g2 <;> rfl
noncomputable def x5_layOut_b84_G (K51 : Sg → Nat → Nat → Int32 → Int32 → Int32 → Option Sg) (K84 : Sg → Nat → Nat → Int32 → Int32 → Int32 → Int32 → Option Sg) (c_x1_canEndAt : Sg → Nat → Int32 → Option (Sg × Int32)) (c_x2_measureUp : Sg → Nat → Nat → Int32 → Int32 → Option Sg) (c_x5_layLine : Sg → Nat → Nat → Int32 → Int32 → Int32 → Option Sg) (s : Sg) (g1 : Nat) (g2 : Nat) (l3 : Int32) (l4 : Int32) (l5 : Int32) (l6 : Int32) : Option Sg :=
  match g2 with
  | 0 => (
    gif (((rI s 5 0 5) : Int32) < l6) (
      K51 s g1 0 l3 l4 (l5 + 1))
    (
      (c_x1_canEndAt s g1 l6).bind fun q1 => (
      gif ((q1.2 : Int32) = 0) (
        K84 q1.1 g1 0 l3 l4 l5 (l6 + 1))
      (
        (c_x2_measureUp q1.1 1 g1 l5 l6).bind fun s2 => (
        gif ((l3 : Int32) < (rI s2 2 1 3)) (
          K51 s2 g1 0 l3 l4 (l5 + 1))
        (
          (c_x5_layLine s2 g1 0 l3 l5 l4).bind fun s3 => (
          K84 s3 g1 0 l3 l4 l5 (l6 + 1))))))))
  | t + 1 => (
    gif (((rI s 5 0 5) : Int32) < l6) (
      K51 s g1 (t + 1) l3 l4 (l5 + 1))
    (
      (c_x1_canEndAt s g1 l6).bind fun q4 => (
      gif ((q4.2 : Int32) = 0) (
        K84 q4.1 g1 (t + 1) l3 l4 l5 (l6 + 1))
      (
        (c_x2_measureUp q4.1 1 g1 l5 l6).bind fun s5 => (
        gif ((l3 : Int32) < (rI s5 2 1 3)) (
          K51 s5 g1 (t + 1) l3 l4 (l5 + 1))
        (
          (c_x5_layLine s5 g1 (t + 1) l3 l5 l4).bind fun s6 => (
          K84 s6 g1 (t + 1) l3 l4 l5 (l6 + 1))))))))
noncomputable def x5_layOut_b84 (K51 : Sg → Nat → Nat → Int32 → Int32 → Int32 → Option Sg) : Nat → Sg → Nat → Nat → Int32 → Int32 → Int32 → Int32 → Option Sg
  | 0 => fun _ _ _ _ _ _ _ => none
  | n + 1 => x5_layOut_b84_G K51 (x5_layOut_b84 K51 n) x1_canEndAt x2_measureUp x5_layLine
noncomputable def t_x5_layOut_b84 (K51 : Sg → Nat → Nat → Int32 → Int32 → Int32 → Option Sg) (K84 : Sg → Nat → Nat → Int32 → Int32 → Int32 → Int32 → Option Sg) (c_x1_canEndAt : Sg → Nat → Int32 → Option (Sg × Int32)) (c_x2_measureUp : Sg → Nat → Nat → Int32 → Int32 → Option Sg) (c_x5_layLine : Sg → Nat → Nat → Int32 → Int32 → Int32 → Option Sg) : Bk Sg := (s_ldI 6 (s_ldA 0 (s_getI 5 5 (s_cgt
  (s_inc 5 1 (s_goto (p_C 0 5 0 <| p_R 1 1 fun a1 => p_N 2 fun a2 => p_I 3 fun a3 => p_I 4 fun a4 => p_I 5 fun a5 => p_E fun s => K51 s a1 a2 a3 a4 a5)))
  (s_ldA 1 (s_ldI 6 (s_call (FW_x1_canEndAt c_x1_canEndAt) 2 (s_eq0
    (s_goto (s_inc 6 1 (s_goto (p_C 0 5 0 <| p_R 1 1 fun a1 => p_N 2 fun a2 => p_I 3 fun a3 => p_I 4 fun a4 => p_I 5 fun a5 => p_I 6 fun a6 => p_E fun s => K84 s a1 a2 a3 a4 a5 a6))))
    (s_ldA 0 (s_getRc 5 4 2 1 (s_ldA 1 (s_ldI 5 (s_ldI 6 (s_call (FW_x2_measureUp c_x2_measureUp) 4 (s_ldA 0 (s_getRc 5 4 2 1 (s_getI 2 3 (s_ldI 3 (s_cgt
      (s_goto (s_inc 5 1 (s_goto (p_C 0 5 0 <| p_R 1 1 fun a1 => p_N 2 fun a2 => p_I 3 fun a3 => p_I 4 fun a4 => p_I 5 fun a5 => p_E fun s => K51 s a1 a2 a3 a4 a5))))
      (s_ldA 0 (s_ldA 1 (s_ldA 2 (s_ldI 3 (s_ldI 5 (s_ldI 4 (s_call (FW_x5_layLine c_x5_layLine) 6 (s_inc 6 1 (s_goto (p_C 0 5 0 <| p_R 1 1 fun a1 => p_N 2 fun a2 => p_I 3 fun a3 => p_I 4 fun a4 => p_I 5 fun a5 => p_I 6 fun a6 => p_E fun s => K84 s a1 a2 a3 a4 a5 a6)))))))))))))))))))))))))))))
set_option maxRecDepth 20000 in
theorem e_x5_layOut_b84 (K51 : Sg → Nat → Nat → Int32 → Int32 → Int32 → Option Sg) (K84 : Sg → Nat → Nat → Int32 → Int32 → Int32 → Int32 → Option Sg) (c_x1_canEndAt : Sg → Nat → Int32 → Option (Sg × Int32)) (c_x2_measureUp : Sg → Nat → Nat → Int32 → Int32 → Option Sg) (c_x5_layLine : Sg → Nat → Nat → Int32 → Int32 → Int32 → Option Sg) (s : Sg) (g1 : Nat) (g2 : Nat) (l3 : Int32) (l4 : Int32) (l5 : Int32) (l6 : Int32) : x5_layOut_b84_G K51 K84 c_x1_canEndAt c_x2_measureUp c_x5_layLine s g1 g2 l3 l4 l5 l6 = t_x5_layOut_b84 K51 K84 c_x1_canEndAt c_x2_measureUp c_x5_layLine [some (.inr (.inr (some (5, 0)))), some (.inr (.inr (some (1, g1)))), some (g_nt g2), some (.inl l3), some (.inl l4), some (.inl l5), some (.inl l6)] [] s := by cases g2 <;> rfl
noncomputable def x5_layOut_b51_G (K51 : Sg → Nat → Nat → Int32 → Int32 → Int32 → Option Sg) (K84 : Sg → Nat → Nat → Int32 → Int32 → Int32 → Int32 → Option Sg) (c_x1_canEndAt : Sg → Nat → Int32 → Option (Sg × Int32)) (s : Sg) (g1 : Nat) (g2 : Nat) (l3 : Int32) (l4 : Int32) (l5 : Int32) : Option Sg :=
  match g2 with
  | 0 => (
    gif ((l5 : Int32) < (rI s 5 0 5)) (
      gif ((l5 : Int32) = (-1)) (
        K84 s g1 0 l3 l4 l5 (l5 + 1))
      (
        (c_x1_canEndAt s g1 l5).bind fun q1 => (
        gif ((q1.2 : Int32) = 0) (
          K51 q1.1 g1 0 l3 l4 (l5 + 1))
        (
          K84 q1.1 g1 0 l3 l4 l5 (l5 + 1)))))
    (
      some s))
  | t + 1 => (
    gif ((l5 : Int32) < (rI s 5 0 5)) (
      gif ((l5 : Int32) = (-1)) (
        K84 s g1 (t + 1) l3 l4 l5 (l5 + 1))
      (
        (c_x1_canEndAt s g1 l5).bind fun q2 => (
        gif ((q2.2 : Int32) = 0) (
          K51 q2.1 g1 (t + 1) l3 l4 (l5 + 1))
        (
          K84 q2.1 g1 (t + 1) l3 l4 l5 (l5 + 1)))))
    (
      some s))
noncomputable def x5_layOut_b51 : Nat → Sg → Nat → Nat → Int32 → Int32 → Int32 → Option Sg
  | 0 => fun _ _ _ _ _ _ => none
  | n + 1 => x5_layOut_b51_G (x5_layOut_b51 n) (x5_layOut_b84 (x5_layOut_b51 n) FU) x1_canEndAt
noncomputable def t_x5_layOut_b51 (K51 : Sg → Nat → Nat → Int32 → Int32 → Int32 → Option Sg) (K84 : Sg → Nat → Nat → Int32 → Int32 → Int32 → Int32 → Option Sg) (c_x1_canEndAt : Sg → Nat → Int32 → Option (Sg × Int32)) : Bk Sg := (s_ldI 5 (s_ldA 0 (s_getI 5 5 (s_clt
  (s_ldI 5 (s_ic (-1) (s_ceq
    (s_ldI 5 (s_ic 1 (s_bin (fun x y => x + y) (s_stI 6 (p_C 0 5 0 <| p_R 1 1 fun a1 => p_N 2 fun a2 => p_I 3 fun a3 => p_I 4 fun a4 => p_I 5 fun a5 => p_I 6 fun a6 => p_E fun s => K84 s a1 a2 a3 a4 a5 a6)))))
    (s_ldA 1 (s_ldI 5 (s_call (FW_x1_canEndAt c_x1_canEndAt) 2 (s_eq0
      (s_goto (s_inc 5 1 (s_goto (p_C 0 5 0 <| p_R 1 1 fun a1 => p_N 2 fun a2 => p_I 3 fun a3 => p_I 4 fun a4 => p_I 5 fun a5 => p_E fun s => K51 s a1 a2 a3 a4 a5))))
      (s_ldI 5 (s_ic 1 (s_bin (fun x y => x + y) (s_stI 6 (p_C 0 5 0 <| p_R 1 1 fun a1 => p_N 2 fun a2 => p_I 3 fun a3 => p_I 4 fun a4 => p_I 5 fun a5 => p_I 6 fun a6 => p_E fun s => K84 s a1 a2 a3 a4 a5 a6))))))))))))
  (s_vret retV)))))
set_option maxRecDepth 20000 in
theorem e_x5_layOut_b51 (K51 : Sg → Nat → Nat → Int32 → Int32 → Int32 → Option Sg) (K84 : Sg → Nat → Nat → Int32 → Int32 → Int32 → Int32 → Option Sg) (c_x1_canEndAt : Sg → Nat → Int32 → Option (Sg × Int32)) (s : Sg) (g1 : Nat) (g2 : Nat) (l3 : Int32) (l4 : Int32) (l5 : Int32) : x5_layOut_b51_G K51 K84 c_x1_canEndAt s g1 g2 l3 l4 l5 = t_x5_layOut_b51 K51 K84 c_x1_canEndAt [some (.inr (.inr (some (5, 0)))), some (.inr (.inr (some (1, g1)))), some (g_nt g2), some (.inl l3), some (.inl l4), some (.inl l5), none] [] s := by cases g2 <;> rfl
noncomputable def x5_layOut_G (K51 : Sg → Nat → Nat → Int32 → Int32 → Int32 → Option Sg) (s : Sg) (g1 : Nat) (g2 : Nat) (l3 : Int32) (l4 : Int32) : Option Sg :=
  match g2 with
  | 0 => (
    let s1 := g_fillL s 27 0 0
    gd (inb 0 625) (
    let s2 := wI s1 24 0 (ix 0) 0
    gd (inb 0 625) (
    let s3 := wI s2 25 0 (ix 0) 0
    gd (inb 0 625) (
    let s4 := wI s3 26 0 (ix 0) 0
    gd (inb 0 625) (
    let s5 := wL s4 27 0 (ix 0) 1
    let s6 := wI s5 5 0 5 ((2 * (rI s5 1 g1 7)) - 1)
    K51 s6 g1 0 l3 l4 (-1))))))
  | t + 1 => (
    let s7 := g_fillL s 27 0 0
    gd (inb 0 625) (
    let s8 := wI s7 24 0 (ix 0) 0
    gd (inb 0 625) (
    let s9 := wI s8 25 0 (ix 0) 0
    gd (inb 0 625) (
    let s10 := wI s9 26 0 (ix 0) 0
    gd (inb 0 625) (
    let s11 := wL s10 27 0 (ix 0) 1
    let s12 := wI s11 5 0 5 ((2 * (rI s11 1 g1 7)) - 1)
    K51 s12 g1 (t + 1) l3 l4 (-1))))))
noncomputable def x5_layOut : Sg → Nat → Nat → Int32 → Int32 → Option Sg := x5_layOut_G (x5_layOut_b51 FU)
noncomputable def t_x5_layOut (K51 : Sg → Nat → Nat → Int32 → Int32 → Int32 → Option Sg) : Bk Sg := (s_ldA 0 (s_getRc 5 3 27 0 (s_lc 0 (s_fillL 27 (s_ldA 0 (s_getRc 5 0 24 0 (s_ic 0 (s_ic 0 (s_iast 24 625 (s_ldA 0 (s_getRc 5 1 25 0 (s_ic 0 (s_ic 0 (s_iast 25 625 (s_ldA 0 (s_getRc 5 2 26 0 (s_ic 0 (s_ic 0 (s_iast 26 625 (s_ldA 0 (s_getRc 5 3 27 0 (s_ic 0 (s_lc 1 (s_last 27 625 (s_ldA 0 (s_ic 2 (s_ldA 1 (s_getI 1 7 (s_bin (fun x y => x * y) (s_ic 1 (s_bin (fun x y => x - y) (s_putI 5 5 (s_ic (-1) (s_stI 5 (p_C 0 5 0 <| p_R 1 1 fun a1 => p_N 2 fun a2 => p_I 3 fun a3 => p_I 4 fun a4 => p_I 5 fun a5 => p_E fun s => K51 s a1 a2 a3 a4 a5)))))))))))))))))))))))))))))))))))
set_option maxRecDepth 20000 in
theorem e_x5_layOut (K51 : Sg → Nat → Nat → Int32 → Int32 → Int32 → Option Sg) (s : Sg) (g1 : Nat) (g2 : Nat) (l3 : Int32) (l4 : Int32) : x5_layOut_G K51 s g1 g2 l3 l4 = t_x5_layOut K51 [some (.inr (.inr (some (5, 0)))), some (.inr (.inr (some (1, g1)))), some (g_nt g2), some (.inl l3), some (.inl l4), none, none] [] s := by cases g2 <;> rfl
noncomputable def x5_canBeOf_G (c_x5_slot : Sg → Int32 → Int32 → Option (Sg × Int32)) (s : Sg) (l1 : Int32) : Option (Sg × Int32) :=
  (c_x5_slot s (rI s 5 0 5) l1).bind fun q1 => (
  gif ((q1.2 : Int32) = (-1)) (
    gd (isB 0) (some (q1.1, 0)))
  (
    gd (inb q1.2 625) (
    gif ((0 : Int32) < (lg_cmp (rL q1.1 27 0 (ix q1.2)) 0)) (
      gd (isB 1) (some (q1.1, 1)))
    (
      gd (isB 0) (some (q1.1, 0))))))
noncomputable def x5_canBeOf : Sg → Int32 → Option (Sg × Int32) := x5_canBeOf_G x5_slot
noncomputable def t_x5_canBeOf (c_x5_slot : Sg → Int32 → Int32 → Option (Sg × Int32)) : Bk (Sg × Int32) := (s_ldA 0 (s_getI 5 5 (s_ldI 1 (s_call (FW_x5_slot c_x5_slot) 2 (s_stI 2 (s_ldI 2 (s_ic (-1) (s_ceq
  (s_ic 0 (s_zret retI))
  (s_ldA 0 (s_getRc 5 3 27 0 (s_ldI 2 (s_lald 27 625 (s_lc 0 (s_lcmp (s_gt0
    (s_ic 1 (s_goto (s_zret retI)))
    (s_ic 0 (s_zret retI)))))))))))))))))
set_option maxRecDepth 20000 in
theorem e_x5_canBeOf (c_x5_slot : Sg → Int32 → Int32 → Option (Sg × Int32)) (s : Sg) (l1 : Int32) : x5_canBeOf_G c_x5_slot s l1 = t_x5_canBeOf c_x5_slot [some (.inr (.inr (some (5, 0)))), some (.inl l1), none] [] s := rfl
noncomputable def x5_canBeOfAtMost_b2_G (K2 : Sg → Int32 → Int32 → Option (Sg × Int32)) (c_x5_canBeOf : Sg → Int32 → Option (Sg × Int32)) (s : Sg) (l1 : Int32) (l2 : Int32) : Option (Sg × Int32) :=
  gif ((l1 : Int32) < l2) (
    gd (isB 0) (some (s, 0)))
  (
    gif ((24 : Int32) < l2) (
      gd (isB 0) (some (s, 0)))
    (
      (c_x5_canBeOf s l2).bind fun q1 => (
      gif ((q1.2 : Int32) = 0) (
        K2 q1.1 l1 (l2 + 1))
      (
        gd (isB 1) (some (q1.1, 1))))))
noncomputable def x5_canBeOfAtMost_b2 : Nat → Sg → Int32 → Int32 → Option (Sg × Int32)
  | 0 => fun _ _ _ => none
  | n + 1 => x5_canBeOfAtMost_b2_G (x5_canBeOfAtMost_b2 n) x5_canBeOf
noncomputable def t_x5_canBeOfAtMost_b2 (K2 : Sg → Int32 → Int32 → Option (Sg × Int32)) (c_x5_canBeOf : Sg → Int32 → Option (Sg × Int32)) : Bk (Sg × Int32) := (s_ldI 2 (s_ldI 1 (s_cgt
  (s_ic 0 (s_zret retI))
  (s_ldI 2 (s_ic 24 (s_cgt
    (s_ic 0 (s_zret retI))
    (s_ldA 0 (s_ldI 2 (s_call (FW_x5_canBeOf c_x5_canBeOf) 2 (s_eq0
      (s_inc 2 1 (s_goto (p_C 0 5 0 <| p_I 1 fun a1 => p_I 2 fun a2 => p_E fun s => K2 s a1 a2)))
      (s_ic 1 (s_zret retI))))))))))))
set_option maxRecDepth 20000 in
theorem e_x5_canBeOfAtMost_b2 (K2 : Sg → Int32 → Int32 → Option (Sg × Int32)) (c_x5_canBeOf : Sg → Int32 → Option (Sg × Int32)) (s : Sg) (l1 : Int32) (l2 : Int32) : x5_canBeOfAtMost_b2_G K2 c_x5_canBeOf s l1 l2 = t_x5_canBeOfAtMost_b2 K2 c_x5_canBeOf [some (.inr (.inr (some (5, 0)))), some (.inl l1), some (.inl l2)] [] s := rfl
noncomputable def x5_canBeOfAtMost_G (K2 : Sg → Int32 → Int32 → Option (Sg × Int32)) (s : Sg) (l1 : Int32) : Option (Sg × Int32) :=
  K2 s l1 0
noncomputable def x5_canBeOfAtMost : Sg → Int32 → Option (Sg × Int32) := x5_canBeOfAtMost_G (x5_canBeOfAtMost_b2 FU)
noncomputable def t_x5_canBeOfAtMost (K2 : Sg → Int32 → Int32 → Option (Sg × Int32)) : Bk (Sg × Int32) := (s_ic 0 (s_stI 2 (p_C 0 5 0 <| p_I 1 fun a1 => p_I 2 fun a2 => p_E fun s => K2 s a1 a2)))
set_option maxRecDepth 20000 in
theorem e_x5_canBeOfAtMost (K2 : Sg → Int32 → Int32 → Option (Sg × Int32)) (s : Sg) (l1 : Int32) : x5_canBeOfAtMost_G K2 s l1 = t_x5_canBeOfAtMost K2 [some (.inr (.inr (some (5, 0)))), some (.inl l1), none] [] s := rfl
noncomputable def x5_leastOfJust_G (c_x5_slot : Sg → Int32 → Int32 → Option (Sg × Int32)) (s : Sg) (l1 : Int32) : Option (Sg × Int32) :=
  (c_x5_slot s (rI s 5 0 5) l1).bind fun q1 => (
  gif ((q1.2 : Int32) = (-1)) (
    some (q1.1, (-1)))
  (
    gd (inb q1.2 625) (
    gif ((0 : Int32) < (lg_cmp (rL q1.1 27 0 (ix q1.2)) 0)) (
      gd (inb q1.2 625) (
      some (q1.1, (rI q1.1 24 0 (ix q1.2)))))
    (
      some (q1.1, (-1))))))
noncomputable def x5_leastOfJust : Sg → Int32 → Option (Sg × Int32) := x5_leastOfJust_G x5_slot
noncomputable def t_x5_leastOfJust (c_x5_slot : Sg → Int32 → Int32 → Option (Sg × Int32)) : Bk (Sg × Int32) := (s_ldA 0 (s_getI 5 5 (s_ldI 1 (s_call (FW_x5_slot c_x5_slot) 2 (s_stI 2 (s_ldI 2 (s_ic (-1) (s_ceq
  (s_ic (-1) (s_iret retI))
  (s_ldA 0 (s_getRc 5 3 27 0 (s_ldI 2 (s_lald 27 625 (s_lc 0 (s_lcmp (s_gt0
    (s_ldA 0 (s_getRc 5 0 24 0 (s_ldI 2 (s_iald 24 625 (s_goto (s_iret retI))))))
    (s_ic (-1) (s_iret retI)))))))))))))))))
set_option maxRecDepth 20000 in
theorem e_x5_leastOfJust (c_x5_slot : Sg → Int32 → Int32 → Option (Sg × Int32)) (s : Sg) (l1 : Int32) : x5_leastOfJust_G c_x5_slot s l1 = t_x5_leastOfJust c_x5_slot [some (.inr (.inr (some (5, 0)))), some (.inl l1), none] [] s := rfl
noncomputable def x5_bestSlot_b4_G (K4 : Sg → Int32 → Int32 → Option (Sg × Int32)) (c_x5_slot : Sg → Int32 → Int32 → Option (Sg × Int32)) (c_x5_isBetter : Sg → Int32 → Int32 → Int32 → Option (Sg × Int32)) (s : Sg) (l1 : Int32) (l2 : Int32) : Option (Sg × Int32) :=
  gif ((24 : Int32) < l2) (
    some (s, l1))
  (
    (c_x5_slot s (rI s 5 0 5) l2).bind fun q1 => (
    gif ((q1.2 : Int32) = (-1)) (
      K4 q1.1 l1 (l2 + 1))
    (
      gd (inb q1.2 625) (
      gif (((lg_cmp (rL q1.1 27 0 (ix q1.2)) 0) : Int32) = 0) (
        K4 q1.1 l1 (l2 + 1))
      (
        gif ((l1 : Int32) = (-1)) (
          K4 q1.1 q1.2 (l2 + 1))
        (
          gd (inb q1.2 625) (
          gd (inb q1.2 625) (
          (c_x5_isBetter q1.1 (rI q1.1 24 0 (ix q1.2)) (rI q1.1 26 0 (ix q1.2)) l1).bind fun q2 => (
          gif ((q2.2 : Int32) = 0) (
            K4 q2.1 l1 (l2 + 1))
          (
            K4 q2.1 q1.2 (l2 + 1)))))))))))
noncomputable def x5_bestSlot_b4 : Nat → Sg → Int32 → Int32 → Option (Sg × Int32)
  | 0 => fun _ _ _ => none
  | n + 1 => x5_bestSlot_b4_G (x5_bestSlot_b4 n) x5_slot x5_isBetter
noncomputable def t_x5_bestSlot_b4 (K4 : Sg → Int32 → Int32 → Option (Sg × Int32)) (c_x5_slot : Sg → Int32 → Int32 → Option (Sg × Int32)) (c_x5_isBetter : Sg → Int32 → Int32 → Int32 → Option (Sg × Int32)) : Bk (Sg × Int32) := (s_ldI 2 (s_ic 24 (s_cgt
  (s_ldI 1 (s_iret retI))
  (s_ldA 0 (s_getI 5 5 (s_ldI 2 (s_call (FW_x5_slot c_x5_slot) 2 (s_stI 3 (s_ldI 3 (s_ic (-1) (s_ceq
    (s_inc 2 1 (s_goto (p_C 0 5 0 <| p_I 1 fun a1 => p_I 2 fun a2 => p_E fun s => K4 s a1 a2)))
    (s_ldA 0 (s_getRc 5 3 27 0 (s_ldI 3 (s_lald 27 625 (s_lc 0 (s_lcmp (s_eq0
      (s_goto (s_inc 2 1 (s_goto (p_C 0 5 0 <| p_I 1 fun a1 => p_I 2 fun a2 => p_E fun s => K4 s a1 a2))))
      (s_ldI 1 (s_ic (-1) (s_ceq
        (s_ldI 3 (s_stI 1 (s_inc 2 1 (s_goto (p_C 0 5 0 <| p_I 1 fun a1 => p_I 2 fun a2 => p_E fun s => K4 s a1 a2)))))
        (s_ldA 0 (s_ldA 0 (s_getRc 5 0 24 0 (s_ldI 3 (s_iald 24 625 (s_ldA 0 (s_getRc 5 2 26 0 (s_ldI 3 (s_iald 26 625 (s_ldI 1 (s_call (FW_x5_isBetter c_x5_isBetter) 4 (s_eq0
          (s_inc 2 1 (s_goto (p_C 0 5 0 <| p_I 1 fun a1 => p_I 2 fun a2 => p_E fun s => K4 s a1 a2)))
          (s_ldI 3 (s_stI 1 (s_inc 2 1 (s_goto (p_C 0 5 0 <| p_I 1 fun a1 => p_I 2 fun a2 => p_E fun s => K4 s a1 a2))))))))))))))))))))))))))))))))))))))
set_option maxRecDepth 20000 in
theorem e_x5_bestSlot_b4 (K4 : Sg → Int32 → Int32 → Option (Sg × Int32)) (c_x5_slot : Sg → Int32 → Int32 → Option (Sg × Int32)) (c_x5_isBetter : Sg → Int32 → Int32 → Int32 → Option (Sg × Int32)) (s : Sg) (l1 : Int32) (l2 : Int32) : x5_bestSlot_b4_G K4 c_x5_slot c_x5_isBetter s l1 l2 = t_x5_bestSlot_b4 K4 c_x5_slot c_x5_isBetter [some (.inr (.inr (some (5, 0)))), some (.inl l1), some (.inl l2), none] [] s := rfl
noncomputable def x5_bestSlot_G (K4 : Sg → Int32 → Int32 → Option (Sg × Int32)) (s : Sg) : Option (Sg × Int32) :=
  K4 s (-1) 0
noncomputable def x5_bestSlot : Sg → Option (Sg × Int32) := x5_bestSlot_G (x5_bestSlot_b4 FU)
noncomputable def t_x5_bestSlot (K4 : Sg → Int32 → Int32 → Option (Sg × Int32)) : Bk (Sg × Int32) := (s_ic (-1) (s_stI 1 (s_ic 0 (s_stI 2 (p_C 0 5 0 <| p_I 1 fun a1 => p_I 2 fun a2 => p_E fun s => K4 s a1 a2)))))
set_option maxRecDepth 20000 in
theorem e_x5_bestSlot (K4 : Sg → Int32 → Int32 → Option (Sg × Int32)) (s : Sg) : x5_bestSlot_G K4 s = t_x5_bestSlot K4 [some (.inr (.inr (some (5, 0)))), none, none, none] [] s := rfl
noncomputable def x5_bestCosts_G (c_x5_bestSlot : Sg → Option (Sg × Int32)) (s : Sg) : Option (Sg × Int32) :=
  (c_x5_bestSlot s).bind fun q1 => (
  gif ((q1.2 : Int32) = (-1)) (
    some (q1.1, (-1)))
  (
    gd (inb q1.2 625) (
    some (q1.1, (rI q1.1 24 0 (ix q1.2))))))
noncomputable def x5_bestCosts : Sg → Option (Sg × Int32) := x5_bestCosts_G x5_bestSlot
noncomputable def t_x5_bestCosts (c_x5_bestSlot : Sg → Option (Sg × Int32)) : Bk (Sg × Int32) := (s_ldA 0 (s_call (FW_x5_bestSlot c_x5_bestSlot) 1 (s_stI 1 (s_ldI 1 (s_ic (-1) (s_ceq
  (s_ic (-1) (s_goto (s_iret retI)))
  (s_ldA 0 (s_getRc 5 0 24 0 (s_ldI 1 (s_iald 24 625 (s_iret retI)))))))))))
set_option maxRecDepth 20000 in
theorem e_x5_bestCosts (c_x5_bestSlot : Sg → Option (Sg × Int32)) (s : Sg) : x5_bestCosts_G c_x5_bestSlot s = t_x5_bestCosts c_x5_bestSlot [some (.inr (.inr (some (5, 0)))), none] [] s := rfl
noncomputable def x5_bestPlace_b21_G (K21 : Sg → Int32 → Int32 → Int32 → Option (Sg × Int32)) (s : Sg) (l2 : Int32) (l3 : Int32) (l4 : Int32) : Option (Sg × Int32) :=
  gif (((rI s 5 0 5) : Int32) < l4) (
    some (s, (-1)))
  (
    gif ((l4 : Int32) < 24) (
      gd (inb l2 625) (
      gif (((((rI s 26 0 (ix l2)) >>> (l4 &&& 31)) &&& 1) : Int32) = 1) (
        gif ((l3 : Int32) = 0) (
          some (s, l4))
        (
          K21 s l2 (l3 + (-1)) (l4 + 1)))
      (
        K21 s l2 l3 (l4 + 1))))
    (
      some (s, (-1))))
noncomputable def x5_bestPlace_b21 : Nat → Sg → Int32 → Int32 → Int32 → Option (Sg × Int32)
  | 0 => fun _ _ _ _ => none
  | n + 1 => x5_bestPlace_b21_G (x5_bestPlace_b21 n)
noncomputable def t_x5_bestPlace_b21 (K21 : Sg → Int32 → Int32 → Int32 → Option (Sg × Int32)) : Bk (Sg × Int32) := (s_ldI 4 (s_ldA 0 (s_getI 5 5 (s_cgt
  (s_ic (-1) (s_iret retI))
  (s_ldI 4 (s_ic 24 (s_clt
    (s_ldA 0 (s_getRc 5 2 26 0 (s_ldI 2 (s_iald 26 625 (s_ldI 4 (s_bin (fun x y => x >>> (y &&& 31)) (s_ic 1 (s_bin (fun x y => x &&& y) (s_ic 1 (s_ceq
      (s_ldI 3 (s_eq0
        (s_ldI 4 (s_iret retI))
        (s_inc 3 (-1) (s_inc 4 1 (s_goto (p_C 0 5 0 <| p_I 2 fun a2 => p_I 3 fun a3 => p_I 4 fun a4 => p_E fun s => K21 s a2 a3 a4))))))
      (s_inc 4 1 (s_goto (p_C 0 5 0 <| p_I 2 fun a2 => p_I 3 fun a3 => p_I 4 fun a4 => p_E fun s => K21 s a2 a3 a4)))))))))))))
    (s_ic (-1) (s_iret retI)))))))))
set_option maxRecDepth 20000 in
theorem e_x5_bestPlace_b21 (K21 : Sg → Int32 → Int32 → Int32 → Option (Sg × Int32)) (s : Sg) (l2 : Int32) (l3 : Int32) (l4 : Int32) : x5_bestPlace_b21_G K21 s l2 l3 l4 = t_x5_bestPlace_b21 K21 [some (.inr (.inr (some (5, 0)))), none, some (.inl l2), some (.inl l3), some (.inl l4)] [] s := rfl
noncomputable def x5_bestPlace_G (K21 : Sg → Int32 → Int32 → Int32 → Option (Sg × Int32)) (c_x5_bestSlot : Sg → Option (Sg × Int32)) (s : Sg) (l1 : Int32) : Option (Sg × Int32) :=
  (c_x5_bestSlot s).bind fun q1 => (
  gif ((q1.2 : Int32) = (-1)) (
    some (q1.1, (-1)))
  (
    gif ((l1 : Int32) < 0) (
      some (q1.1, (-1)))
    (
      K21 q1.1 q1.2 l1 0)))
noncomputable def x5_bestPlace : Sg → Int32 → Option (Sg × Int32) := x5_bestPlace_G (x5_bestPlace_b21 FU) x5_bestSlot
noncomputable def t_x5_bestPlace (K21 : Sg → Int32 → Int32 → Int32 → Option (Sg × Int32)) (c_x5_bestSlot : Sg → Option (Sg × Int32)) : Bk (Sg × Int32) := (s_ldA 0 (s_call (FW_x5_bestSlot c_x5_bestSlot) 1 (s_stI 2 (s_ldI 2 (s_ic (-1) (s_ceq
  (s_ic (-1) (s_iret retI))
  (s_ldI 1 (s_lt0
    (s_ic (-1) (s_iret retI))
    (s_ldI 1 (s_stI 3 (s_ic 0 (s_stI 4 (p_C 0 5 0 <| p_I 2 fun a2 => p_I 3 fun a3 => p_I 4 fun a4 => p_E fun s => K21 s a2 a3 a4)))))))))))))
set_option maxRecDepth 20000 in
theorem e_x5_bestPlace (K21 : Sg → Int32 → Int32 → Int32 → Option (Sg × Int32)) (c_x5_bestSlot : Sg → Option (Sg × Int32)) (s : Sg) (l1 : Int32) : x5_bestPlace_G K21 c_x5_bestSlot s l1 = t_x5_bestPlace K21 c_x5_bestSlot [some (.inr (.inr (some (5, 0)))), some (.inl l1), none, none, none] [] s := rfl
noncomputable def x5_waysInAll_b4_G (K4 : Sg → Int64 → Int32 → Option (Sg × Int64)) (c_x5_slot : Sg → Int32 → Int32 → Option (Sg × Int32)) (s : Sg) (l1 : Int64) (l3 : Int32) : Option (Sg × Int64) :=
  gif ((24 : Int32) < l3) (
    some (s, l1))
  (
    (c_x5_slot s (rI s 5 0 5) l3).bind fun q1 => (
    gif ((q1.2 : Int32) = (-1)) (
      K4 q1.1 (l1 + 0) (l3 + 1))
    (
      gd (inb q1.2 625) (
      K4 q1.1 (l1 + (rL q1.1 27 0 (ix q1.2))) (l3 + 1)))))
noncomputable def x5_waysInAll_b4 : Nat → Sg → Int64 → Int32 → Option (Sg × Int64)
  | 0 => fun _ _ _ => none
  | n + 1 => x5_waysInAll_b4_G (x5_waysInAll_b4 n) x5_slot
noncomputable def t_x5_waysInAll_b4 (K4 : Sg → Int64 → Int32 → Option (Sg × Int64)) (c_x5_slot : Sg → Int32 → Int32 → Option (Sg × Int32)) : Bk (Sg × Int64) := (s_ldI 3 (s_ic 24 (s_cgt
  (s_ldL 1 (s_lret retL))
  (s_ldA 0 (s_getI 5 5 (s_ldI 3 (s_call (FW_x5_slot c_x5_slot) 2 (s_stI 4 (s_ldL 1 (s_ldI 4 (s_ic (-1) (s_ceq
    (s_lc 0 (s_goto (s_lbin (fun x y => x + y) (s_stL 1 (s_inc 3 1 (s_goto (p_C 0 5 0 <| p_L 1 fun a1 => p_I 3 fun a3 => p_E fun s => K4 s a1 a3)))))))
    (s_ldA 0 (s_getRc 5 3 27 0 (s_ldI 4 (s_lald 27 625 (s_lbin (fun x y => x + y) (s_stL 1 (s_inc 3 1 (s_goto (p_C 0 5 0 <| p_L 1 fun a1 => p_I 3 fun a3 => p_E fun s => K4 s a1 a3)))))))))))))))))))))
set_option maxRecDepth 20000 in
theorem e_x5_waysInAll_b4 (K4 : Sg → Int64 → Int32 → Option (Sg × Int64)) (c_x5_slot : Sg → Int32 → Int32 → Option (Sg × Int32)) (s : Sg) (l1 : Int64) (l3 : Int32) : x5_waysInAll_b4_G K4 c_x5_slot s l1 l3 = t_x5_waysInAll_b4 K4 c_x5_slot [some (.inr (.inr (some (5, 0)))), some (.inr (.inl l1)), none, some (.inl l3), none] [] s := rfl
noncomputable def x5_waysInAll_G (K4 : Sg → Int64 → Int32 → Option (Sg × Int64)) (s : Sg) : Option (Sg × Int64) :=
  K4 s 0 0
noncomputable def x5_waysInAll : Sg → Option (Sg × Int64) := x5_waysInAll_G (x5_waysInAll_b4 FU)
noncomputable def t_x5_waysInAll (K4 : Sg → Int64 → Int32 → Option (Sg × Int64)) : Bk (Sg × Int64) := (s_lc 0 (s_stL 1 (s_ic 0 (s_stI 3 (p_C 0 5 0 <| p_L 1 fun a1 => p_I 3 fun a3 => p_E fun s => K4 s a1 a3)))))
set_option maxRecDepth 20000 in
theorem e_x5_waysInAll (K4 : Sg → Int64 → Int32 → Option (Sg × Int64)) (s : Sg) : x5_waysInAll_G K4 s = t_x5_waysInAll K4 [some (.inr (.inr (some (5, 0)))), none, none, none, none] [] s := rfl
noncomputable def x5_mostPaid_b4_G (K4 : Sg → Int32 → Int32 → Option (Sg × Int32)) (c_x5_slot : Sg → Int32 → Int32 → Option (Sg × Int32)) (s : Sg) (l1 : Int32) (l2 : Int32) : Option (Sg × Int32) :=
  gif ((24 : Int32) < l2) (
    some (s, l1))
  (
    (c_x5_slot s (rI s 5 0 5) l2).bind fun q1 => (
    gif ((q1.2 : Int32) = (-1)) (
      K4 q1.1 l1 (l2 + 1))
    (
      gd (inb q1.2 625) (
      gif ((0 : Int32) < (lg_cmp (rL q1.1 27 0 (ix q1.2)) 0)) (
        gd (inb q1.2 625) (
        K4 q1.1 (g_max l1 (rI q1.1 25 0 (ix q1.2))) (l2 + 1)))
      (
        K4 q1.1 l1 (l2 + 1))))))
noncomputable def x5_mostPaid_b4 : Nat → Sg → Int32 → Int32 → Option (Sg × Int32)
  | 0 => fun _ _ _ => none
  | n + 1 => x5_mostPaid_b4_G (x5_mostPaid_b4 n) x5_slot
noncomputable def t_x5_mostPaid_b4 (K4 : Sg → Int32 → Int32 → Option (Sg × Int32)) (c_x5_slot : Sg → Int32 → Int32 → Option (Sg × Int32)) : Bk (Sg × Int32) := (s_ldI 2 (s_ic 24 (s_cgt
  (s_ldI 1 (s_iret retI))
  (s_ldA 0 (s_getI 5 5 (s_ldI 2 (s_call (FW_x5_slot c_x5_slot) 2 (s_stI 3 (s_ldI 3 (s_ic (-1) (s_ceq
    (s_inc 2 1 (s_goto (p_C 0 5 0 <| p_I 1 fun a1 => p_I 2 fun a2 => p_E fun s => K4 s a1 a2)))
    (s_ldA 0 (s_getRc 5 3 27 0 (s_ldI 3 (s_lald 27 625 (s_lc 0 (s_lcmp (s_gt0
      (s_ldI 1 (s_ldA 0 (s_getRc 5 1 25 0 (s_ldI 3 (s_iald 25 625 (s_m2 g_max (s_stI 1 (s_inc 2 1 (s_goto (p_C 0 5 0 <| p_I 1 fun a1 => p_I 2 fun a2 => p_E fun s => K4 s a1 a2))))))))))
      (s_inc 2 1 (s_goto (p_C 0 5 0 <| p_I 1 fun a1 => p_I 2 fun a2 => p_E fun s => K4 s a1 a2)))))))))))))))))))))
set_option maxRecDepth 20000 in
theorem e_x5_mostPaid_b4 (K4 : Sg → Int32 → Int32 → Option (Sg × Int32)) (c_x5_slot : Sg → Int32 → Int32 → Option (Sg × Int32)) (s : Sg) (l1 : Int32) (l2 : Int32) : x5_mostPaid_b4_G K4 c_x5_slot s l1 l2 = t_x5_mostPaid_b4 K4 c_x5_slot [some (.inr (.inr (some (5, 0)))), some (.inl l1), some (.inl l2), none] [] s := rfl
noncomputable def x5_mostPaid_G (K4 : Sg → Int32 → Int32 → Option (Sg × Int32)) (s : Sg) : Option (Sg × Int32) :=
  K4 s (-1) 0
noncomputable def x5_mostPaid : Sg → Option (Sg × Int32) := x5_mostPaid_G (x5_mostPaid_b4 FU)
noncomputable def t_x5_mostPaid (K4 : Sg → Int32 → Int32 → Option (Sg × Int32)) : Bk (Sg × Int32) := (s_ic (-1) (s_stI 1 (s_ic 0 (s_stI 2 (p_C 0 5 0 <| p_I 1 fun a1 => p_I 2 fun a2 => p_E fun s => K4 s a1 a2)))))
set_option maxRecDepth 20000 in
theorem e_x5_mostPaid (K4 : Sg → Int32 → Int32 → Option (Sg × Int32)) (s : Sg) : x5_mostPaid_G K4 s = t_x5_mostPaid K4 [some (.inr (.inr (some (5, 0)))), none, none, none] [] s := rfl
noncomputable def x8_clear_G (s : Sg) (g0 : Nat) : Option Sg :=
  let s1 := wI s 8 g0 6 0
  let s2 := wI s1 8 g0 7 0
  gd (isB 0) (
  let s3 := wI s2 8 g0 8 0
  some s3)
noncomputable def x8_clear : Sg → Nat → Option Sg := x8_clear_G
noncomputable def t_x8_clear : Bk Sg := (s_ldA 0 (s_ic 0 (s_putI 8 6 (s_ldA 0 (s_ic 0 (s_putI 8 7 (s_ldA 0 (s_ic 0 (s_putZ 8 8 (s_vret retV))))))))))
set_option maxRecDepth 20000 in
theorem e_x8_clear (s : Sg) (g0 : Nat) : x8_clear_G s g0 = t_x8_clear [some (.inr (.inr (some (8, g0))))] [] s := rfl
noncomputable def x6_sortOf_G (s : Sg) (l0 : Int32) : Option (Sg × Int32) :=
  gif ((l0 : Int32) < 97) (
    gif ((l0 : Int32) < 48) (
      some (s, 0))
    (
      gif ((57 : Int32) < l0) (
        some (s, 0))
      (
        some (s, 2))))
  (
    gif ((122 : Int32) < l0) (
      gif ((l0 : Int32) < 48) (
        some (s, 0))
      (
        gif ((57 : Int32) < l0) (
          some (s, 0))
        (
          some (s, 2))))
    (
      some (s, 1)))
noncomputable def x6_sortOf : Sg → Int32 → Option (Sg × Int32) := x6_sortOf_G
noncomputable def t_x6_sortOf : Bk (Sg × Int32) := (s_ldI 0 (s_ic 97 (s_clt
  (s_ldI 0 (s_ic 48 (s_clt
    (s_ic 0 (s_iret retI))
    (s_ldI 0 (s_ic 57 (s_cgt
      (s_ic 0 (s_iret retI))
      (s_ic 2 (s_goto (s_iret retI)))))))))
  (s_ldI 0 (s_ic 122 (s_cgt
    (s_ldI 0 (s_ic 48 (s_clt
      (s_ic 0 (s_iret retI))
      (s_ldI 0 (s_ic 57 (s_cgt
        (s_ic 0 (s_iret retI))
        (s_ic 2 (s_goto (s_iret retI)))))))))
    (s_ic 1 (s_iret retI))))))))
set_option maxRecDepth 20000 in
theorem e_x6_sortOf (s : Sg) (l0 : Int32) : x6_sortOf_G s l0 = t_x6_sortOf [some (.inl l0)] [] s := rfl
noncomputable def x6_wordOf_b13_G (K13 : Sg → Int32 → Int32 → Int32 → Int32 → Int32 → Int32 → Option (Sg × Int32)) (s : Sg) (l1 : Int32) (l2 : Int32) (l3 : Int32) (l4 : Int32) (l5 : Int32) (l6 : Int32) : Option (Sg × Int32) :=
  gif ((l6 : Int32) < g_strlen) (
    gd (inb l6 g_strN) (
    gif (((g_strat l6) : Int32) = 32) (
      gif ((l5 : Int32) = 0) (
        K13 s l1 l2 (l3 + 1) l1 1 (l6 + 1))
      (
        gif ((l4 : Int32) = l2) (
          some (s, l3))
        (
          K13 s l1 l2 (l3 + 1) l1 1 (l6 + 1))))
    (
      gif ((l5 : Int32) = 0) (
        K13 s l1 l2 l3 (l4 + 1) 0 (l6 + 1))
      (
        gif ((l4 : Int32) < l2) (
          gif ((l4 : Int32) < (Int32.ofNat 400)) (
            gd (inb l4 400) (
            gif (((rI s 39 0 (ix l4)) : Int32) = (g_strat l6)) (
              K13 s l1 l2 l3 (l4 + 1) 1 (l6 + 1))
            (
              K13 s l1 l2 l3 (l4 + 1) 0 (l6 + 1))))
          (
            K13 s l1 l2 l3 (l4 + 1) 0 (l6 + 1)))
        (
          K13 s l1 l2 l3 (l4 + 1) 0 (l6 + 1))))))
  (
    some (s, 3999))
noncomputable def x6_wordOf_b13 : Nat → Sg → Int32 → Int32 → Int32 → Int32 → Int32 → Int32 → Option (Sg × Int32)
  | 0 => fun _ _ _ _ _ _ _ => none
  | n + 1 => x6_wordOf_b13_G (x6_wordOf_b13 n)
noncomputable def t_x6_wordOf_b13 (K13 : Sg → Int32 → Int32 → Int32 → Int32 → Int32 → Int32 → Option (Sg × Int32)) : Bk (Sg × Int32) := (s_ldI 6 (s_ref 79 39 (s_strlen (s_clt
  (s_ref 79 39 (s_ldI 6 (s_strat (s_stI 7 (s_ldI 7 (s_ic 32 (s_ceq
    (s_ldI 5 (s_eq0
      (s_inc 3 1 (s_ldI 1 (s_stI 4 (s_ic 1 (s_stI 5 (s_inc 6 1 (s_goto (p_C 0 39 0 <| p_I 1 fun a1 => p_I 2 fun a2 => p_I 3 fun a3 => p_I 4 fun a4 => p_I 5 fun a5 => p_I 6 fun a6 => p_E fun s => K13 s a1 a2 a3 a4 a5 a6))))))))
      (s_ldI 4 (s_ldI 2 (s_ceq
        (s_ldI 3 (s_iret retI))
        (s_inc 3 1 (s_ldI 1 (s_stI 4 (s_ic 1 (s_stI 5 (s_inc 6 1 (s_goto (p_C 0 39 0 <| p_I 1 fun a1 => p_I 2 fun a2 => p_I 3 fun a3 => p_I 4 fun a4 => p_I 5 fun a5 => p_I 6 fun a6 => p_E fun s => K13 s a1 a2 a3 a4 a5 a6)))))))))))))
    (s_ldI 5 (s_eq0
      (s_ic 0 (s_stI 5 (s_inc 4 1 (s_goto (s_inc 6 1 (s_goto (p_C 0 39 0 <| p_I 1 fun a1 => p_I 2 fun a2 => p_I 3 fun a3 => p_I 4 fun a4 => p_I 5 fun a5 => p_I 6 fun a6 => p_E fun s => K13 s a1 a2 a3 a4 a5 a6)))))))
      (s_ldI 4 (s_ldI 2 (s_clt
        (s_ldI 4 (s_ldA 0 (s_alen 39 400 (s_clt
          (s_ldA 0 (s_ldI 4 (s_bald 39 400 (s_ldI 7 (s_ceq
            (s_ic 1 (s_goto (s_stI 5 (s_inc 4 1 (s_goto (s_inc 6 1 (s_goto (p_C 0 39 0 <| p_I 1 fun a1 => p_I 2 fun a2 => p_I 3 fun a3 => p_I 4 fun a4 => p_I 5 fun a5 => p_I 6 fun a6 => p_E fun s => K13 s a1 a2 a3 a4 a5 a6))))))))
            (s_ic 0 (s_stI 5 (s_inc 4 1 (s_goto (s_inc 6 1 (s_goto (p_C 0 39 0 <| p_I 1 fun a1 => p_I 2 fun a2 => p_I 3 fun a3 => p_I 4 fun a4 => p_I 5 fun a5 => p_I 6 fun a6 => p_E fun s => K13 s a1 a2 a3 a4 a5 a6))))))))))))
          (s_ic 0 (s_stI 5 (s_inc 4 1 (s_goto (s_inc 6 1 (s_goto (p_C 0 39 0 <| p_I 1 fun a1 => p_I 2 fun a2 => p_I 3 fun a3 => p_I 4 fun a4 => p_I 5 fun a5 => p_I 6 fun a6 => p_E fun s => K13 s a1 a2 a3 a4 a5 a6)))))))))))
        (s_ic 0 (s_stI 5 (s_inc 4 1 (s_goto (s_inc 6 1 (s_goto (p_C 0 39 0 <| p_I 1 fun a1 => p_I 2 fun a2 => p_I 3 fun a3 => p_I 4 fun a4 => p_I 5 fun a5 => p_I 6 fun a6 => p_E fun s => K13 s a1 a2 a3 a4 a5 a6)))))))))))))))))))
  (s_ic 3999 (s_iret retI))))))
set_option maxRecDepth 20000 in
theorem e_x6_wordOf_b13 (K13 : Sg → Int32 → Int32 → Int32 → Int32 → Int32 → Int32 → Option (Sg × Int32)) (s : Sg) (l1 : Int32) (l2 : Int32) (l3 : Int32) (l4 : Int32) (l5 : Int32) (l6 : Int32) : x6_wordOf_b13_G K13 s l1 l2 l3 l4 l5 l6 = t_x6_wordOf_b13 K13 [some (.inr (.inr (some (39, 0)))), some (.inl l1), some (.inl l2), some (.inl l3), some (.inl l4), some (.inl l5), some (.inl l6), none] [] s := rfl
noncomputable def x6_wordOf_G (K13 : Sg → Int32 → Int32 → Int32 → Int32 → Int32 → Int32 → Option (Sg × Int32)) (s : Sg) (l1 : Int32) (l2 : Int32) : Option (Sg × Int32) :=
  K13 s l1 l2 3000 l1 1 0
noncomputable def x6_wordOf : Sg → Int32 → Int32 → Option (Sg × Int32) := x6_wordOf_G (x6_wordOf_b13 FU)
noncomputable def t_x6_wordOf (K13 : Sg → Int32 → Int32 → Int32 → Int32 → Int32 → Int32 → Option (Sg × Int32)) : Bk (Sg × Int32) := (s_ic 3000 (s_stI 3 (s_ldI 1 (s_stI 4 (s_ic 1 (s_stI 5 (s_ic 0 (s_stI 6 (p_C 0 39 0 <| p_I 1 fun a1 => p_I 2 fun a2 => p_I 3 fun a3 => p_I 4 fun a4 => p_I 5 fun a5 => p_I 6 fun a6 => p_E fun s => K13 s a1 a2 a3 a4 a5 a6)))))))))
set_option maxRecDepth 20000 in
theorem e_x6_wordOf (K13 : Sg → Int32 → Int32 → Int32 → Int32 → Int32 → Int32 → Option (Sg × Int32)) (s : Sg) (l1 : Int32) (l2 : Int32) : x6_wordOf_G K13 s l1 l2 = t_x6_wordOf K13 [some (.inr (.inr (some (39, 0)))), some (.inl l1), some (.inl l2), none, none, none, none, none] [] s := rfl
noncomputable def x6_numberOf_b5_G (K5 : Sg → Int32 → Int32 → Int32 → Option (Sg × Int32)) (s : Sg) (l2 : Int32) (l3 : Int32) (l4 : Int32) : Option (Sg × Int32) :=
  gif ((l4 : Int32) < l2) (
    gif ((l4 : Int32) < (Int32.ofNat 400)) (
      gd (inb l4 400) (
      K5 s l2 (g_min (((l3 * 10) + (rI s 39 0 (ix l4))) - 48) 1001) (l4 + 1)))
    (
      some (s, l3)))
  (
    some (s, l3))
noncomputable def x6_numberOf_b5 : Nat → Sg → Int32 → Int32 → Int32 → Option (Sg × Int32)
  | 0 => fun _ _ _ _ => none
  | n + 1 => x6_numberOf_b5_G (x6_numberOf_b5 n)
noncomputable def t_x6_numberOf_b5 (K5 : Sg → Int32 → Int32 → Int32 → Option (Sg × Int32)) : Bk (Sg × Int32) := (s_ldI 4 (s_ldI 2 (s_clt
  (s_ldI 4 (s_ldA 0 (s_alen 39 400 (s_clt
    (s_ldI 3 (s_ic 10 (s_bin (fun x y => x * y) (s_ldA 0 (s_ldI 4 (s_bald 39 400 (s_bin (fun x y => x + y) (s_ic 48 (s_bin (fun x y => x - y) (s_ic 1001 (s_m2 g_min (s_stI 3 (s_inc 4 1 (s_goto (p_C 0 39 0 <| p_I 2 fun a2 => p_I 3 fun a3 => p_I 4 fun a4 => p_E fun s => K5 s a2 a3 a4)))))))))))))))
    (s_ldI 3 (s_iret retI))))))
  (s_ldI 3 (s_iret retI)))))
set_option maxRecDepth 20000 in
theorem e_x6_numberOf_b5 (K5 : Sg → Int32 → Int32 → Int32 → Option (Sg × Int32)) (s : Sg) (l2 : Int32) (l3 : Int32) (l4 : Int32) : x6_numberOf_b5_G K5 s l2 l3 l4 = t_x6_numberOf_b5 K5 [some (.inr (.inr (some (39, 0)))), none, some (.inl l2), some (.inl l3), some (.inl l4)] [] s := rfl
noncomputable def x6_numberOf_G (K5 : Sg → Int32 → Int32 → Int32 → Option (Sg × Int32)) (s : Sg) (l1 : Int32) (l2 : Int32) : Option (Sg × Int32) :=
  K5 s l2 0 l1
noncomputable def x6_numberOf : Sg → Int32 → Int32 → Option (Sg × Int32) := x6_numberOf_G (x6_numberOf_b5 FU)
noncomputable def t_x6_numberOf (K5 : Sg → Int32 → Int32 → Int32 → Option (Sg × Int32)) : Bk (Sg × Int32) := (s_ic 0 (s_stI 3 (s_ldI 1 (s_stI 4 (p_C 0 39 0 <| p_I 2 fun a2 => p_I 3 fun a3 => p_I 4 fun a4 => p_E fun s => K5 s a2 a3 a4)))))
set_option maxRecDepth 20000 in
theorem e_x6_numberOf (K5 : Sg → Int32 → Int32 → Int32 → Option (Sg × Int32)) (s : Sg) (l1 : Int32) (l2 : Int32) : x6_numberOf_G K5 s l1 l2 = t_x6_numberOf K5 [some (.inr (.inr (some (39, 0)))), some (.inl l1), some (.inl l2), none, none] [] s := rfl
noncomputable def x6_cut_b62_G (K5 : Sg → Int32 → Int32 → Int32 → Option Sg) (c_x6_wordOf : Sg → Int32 → Int32 → Option (Sg × Int32)) (c_x6_numberOf : Sg → Int32 → Int32 → Option (Sg × Int32)) (s : Sg) (l2 : Int32) (l3 : Int32) (l4 : Int32) (l5 : Int32) (l6 : Int32) : Option Sg :=
  gd (inb l4 400) (
  gif (((rI s 39 0 (ix l4)) : Int32) = 32) (
    K5 s l2 l3 l5)
  (
    gd (inb l3 401) (
    let s1 := wI s 29 0 (ix l3) l4
    gif ((l6 : Int32) = 1) (
      (c_x6_wordOf s1 l4 l5).bind fun q2 => (
      gd (inb l3 401) (
      let s3 := wI q2.1 28 0 (ix l3) q2.2
      K5 s3 l2 (l3 + 1) l5)))
    (
      gif ((l6 : Int32) = 2) (
        (c_x6_numberOf s1 l4 l5).bind fun q4 => (
        gd (inb l3 401) (
        let s5 := wI q4.1 28 0 (ix l3) q4.2
        K5 s5 l2 (l3 + 1) l5)))
      (
        gd (inb l4 400) (
        gd (inb l3 401) (
        let s6 := wI s1 28 0 (ix l3) (2000 + ((rI s1 39 0 (ix l4)) &&& 255))
        K5 s6 l2 (l3 + 1) l5)))))))
noncomputable def x6_cut_b62 (K5 : Sg → Int32 → Int32 → Int32 → Option Sg) : Sg → Int32 → Int32 → Int32 → Int32 → Int32 → Option Sg := x6_cut_b62_G K5 x6_wordOf x6_numberOf
noncomputable def t_x6_cut_b62 (K5 : Sg → Int32 → Int32 → Int32 → Option Sg) (c_x6_wordOf : Sg → Int32 → Int32 → Option (Sg × Int32)) (c_x6_numberOf : Sg → Int32 → Int32 → Option (Sg × Int32)) : Bk Sg := (s_ldA 1 (s_ldI 4 (s_bald 39 400 (s_ic 32 (s_ceq
  (s_ldI 5 (s_stI 4 (s_goto (p_C 0 6 0 <| p_C 1 39 0 <| p_I 2 fun a2 => p_I 3 fun a3 => p_I 4 fun a4 => p_E fun s => K5 s a2 a3 a4))))
  (s_ldA 0 (s_getRc 6 2 29 0 (s_ldI 3 (s_ldI 4 (s_iast 29 401 (s_ldA 0 (s_getRc 6 1 28 0 (s_ldI 3 (s_ldI 6 (s_ic 1 (s_ceq
    (s_ldA 1 (s_ldI 4 (s_ldI 5 (s_call (FW_x6_wordOf c_x6_wordOf) 3 (s_goto (s_iast 28 401 (s_inc 3 1 (s_ldI 5 (s_stI 4 (s_goto (p_C 0 6 0 <| p_C 1 39 0 <| p_I 2 fun a2 => p_I 3 fun a3 => p_I 4 fun a4 => p_E fun s => K5 s a2 a3 a4)))))))))))
    (s_ldI 6 (s_ic 2 (s_ceq
      (s_ldA 1 (s_ldI 4 (s_ldI 5 (s_call (FW_x6_numberOf c_x6_numberOf) 3 (s_goto (s_iast 28 401 (s_inc 3 1 (s_ldI 5 (s_stI 4 (s_goto (p_C 0 6 0 <| p_C 1 39 0 <| p_I 2 fun a2 => p_I 3 fun a3 => p_I 4 fun a4 => p_E fun s => K5 s a2 a3 a4)))))))))))
      (s_ic 2000 (s_ldA 1 (s_ldI 4 (s_bald 39 400 (s_ic 255 (s_bin (fun x y => x &&& y) (s_bin (fun x y => x + y) (s_iast 28 401 (s_inc 3 1 (s_ldI 5 (s_stI 4 (s_goto (p_C 0 6 0 <| p_C 1 39 0 <| p_I 2 fun a2 => p_I 3 fun a3 => p_I 4 fun a4 => p_E fun s => K5 s a2 a3 a4))))))))))))))))))))))))))))))))
set_option maxRecDepth 20000 in
theorem e_x6_cut_b62 (K5 : Sg → Int32 → Int32 → Int32 → Option Sg) (c_x6_wordOf : Sg → Int32 → Int32 → Option (Sg × Int32)) (c_x6_numberOf : Sg → Int32 → Int32 → Option (Sg × Int32)) (s : Sg) (l2 : Int32) (l3 : Int32) (l4 : Int32) (l5 : Int32) (l6 : Int32) : x6_cut_b62_G K5 c_x6_wordOf c_x6_numberOf s l2 l3 l4 l5 l6 = t_x6_cut_b62 K5 c_x6_wordOf c_x6_numberOf [some (.inr (.inr (some (6, 0)))), some (.inr (.inr (some (39, 0)))), some (.inl l2), some (.inl l3), some (.inl l4), some (.inl l5), some (.inl l6)] [] s := rfl
noncomputable def x6_cut_b33_G (K33 : Sg → Int32 → Int32 → Int32 → Int32 → Int32 → Option Sg) (K62 : Sg → Int32 → Int32 → Int32 → Int32 → Int32 → Option Sg) (c_x6_sortOf : Sg → Int32 → Option (Sg × Int32)) (s : Sg) (l2 : Int32) (l3 : Int32) (l4 : Int32) (l5 : Int32) (l6 : Int32) : Option Sg :=
  gif ((l5 : Int32) < l2) (
    gif ((l6 : Int32) = 0) (
      K62 s l2 l3 l4 l5 l6)
    (
      gd (inb l5 400) (
      (c_x6_sortOf s (rI s 39 0 (ix l5))).bind fun q1 => (
      gif ((q1.2 : Int32) = l6) (
        K33 q1.1 l2 l3 l4 (l5 + 1) l6)
      (
        K62 q1.1 l2 l3 l4 l5 l6)))))
  (
    K62 s l2 l3 l4 l5 l6)
noncomputable def x6_cut_b33 (K5 : Sg → Int32 → Int32 → Int32 → Option Sg) : Nat → Sg → Int32 → Int32 → Int32 → Int32 → Int32 → Option Sg
  | 0 => fun _ _ _ _ _ _ => none
  | n + 1 => x6_cut_b33_G (x6_cut_b33 K5 n) (x6_cut_b62 K5) x6_sortOf
noncomputable def t_x6_cut_b33 (K33 : Sg → Int32 → Int32 → Int32 → Int32 → Int32 → Option Sg) (K62 : Sg → Int32 → Int32 → Int32 → Int32 → Int32 → Option Sg) (c_x6_sortOf : Sg → Int32 → Option (Sg × Int32)) : Bk Sg := (s_ldI 5 (s_ldI 2 (s_clt
  (s_ldI 6 (s_eq0
    (p_C 0 6 0 <| p_C 1 39 0 <| p_I 2 fun a2 => p_I 3 fun a3 => p_I 4 fun a4 => p_I 5 fun a5 => p_I 6 fun a6 => p_E fun s => K62 s a2 a3 a4 a5 a6)
    (s_ldA 1 (s_ldI 5 (s_bald 39 400 (s_call (FW_x6_sortOf c_x6_sortOf) 1 (s_ldI 6 (s_ceq
      (s_inc 5 1 (s_goto (p_C 0 6 0 <| p_C 1 39 0 <| p_I 2 fun a2 => p_I 3 fun a3 => p_I 4 fun a4 => p_I 5 fun a5 => p_I 6 fun a6 => p_E fun s => K33 s a2 a3 a4 a5 a6)))
      (p_C 0 6 0 <| p_C 1 39 0 <| p_I 2 fun a2 => p_I 3 fun a3 => p_I 4 fun a4 => p_I 5 fun a5 => p_I 6 fun a6 => p_E fun s => K62 s a2 a3 a4 a5 a6)))))))))
  (p_C 0 6 0 <| p_C 1 39 0 <| p_I 2 fun a2 => p_I 3 fun a3 => p_I 4 fun a4 => p_I 5 fun a5 => p_I 6 fun a6 => p_E fun s => K62 s a2 a3 a4 a5 a6))))
set_option maxRecDepth 20000 in
theorem e_x6_cut_b33 (K33 : Sg → Int32 → Int32 → Int32 → Int32 → Int32 → Option Sg) (K62 : Sg → Int32 → Int32 → Int32 → Int32 → Int32 → Option Sg) (c_x6_sortOf : Sg → Int32 → Option (Sg × Int32)) (s : Sg) (l2 : Int32) (l3 : Int32) (l4 : Int32) (l5 : Int32) (l6 : Int32) : x6_cut_b33_G K33 K62 c_x6_sortOf s l2 l3 l4 l5 l6 = t_x6_cut_b33 K33 K62 c_x6_sortOf [some (.inr (.inr (some (6, 0)))), some (.inr (.inr (some (39, 0)))), some (.inl l2), some (.inl l3), some (.inl l4), some (.inl l5), some (.inl l6)] [] s := rfl
noncomputable def x6_cut_b5_G (K33 : Sg → Int32 → Int32 → Int32 → Int32 → Int32 → Option Sg) (c_x6_sortOf : Sg → Int32 → Option (Sg × Int32)) (s : Sg) (l2 : Int32) (l3 : Int32) (l4 : Int32) : Option Sg :=
  gif ((l4 : Int32) < l2) (
    gif ((l3 : Int32) < 400) (
      gd (inb l4 400) (
      (c_x6_sortOf s (rI s 39 0 (ix l4))).bind fun q1 => (
      K33 q1.1 l2 l3 l4 (l4 + 1) q1.2)))
    (
      gd (inb l3 401) (
      let s2 := wI s 29 0 (ix l3) l2
      gd (inb l3 401) (
      let s3 := wI s2 28 0 (ix l3) 4000
      some s3))))
  (
    gd (inb l3 401) (
    let s4 := wI s 29 0 (ix l3) l2
    gd (inb l3 401) (
    let s5 := wI s4 28 0 (ix l3) 4000
    some s5)))
noncomputable def x6_cut_b5 : Nat → Sg → Int32 → Int32 → Int32 → Option Sg
  | 0 => fun _ _ _ _ => none
  | n + 1 => x6_cut_b5_G (x6_cut_b33 (x6_cut_b5 n) FU) x6_sortOf
noncomputable def t_x6_cut_b5 (K33 : Sg → Int32 → Int32 → Int32 → Int32 → Int32 → Option Sg) (c_x6_sortOf : Sg → Int32 → Option (Sg × Int32)) : Bk Sg := (s_ldI 4 (s_ldI 2 (s_clt
  (s_ldI 3 (s_ic 400 (s_clt
    (s_ldI 4 (s_ic 1 (s_bin (fun x y => x + y) (s_stI 5 (s_ldA 1 (s_ldI 4 (s_bald 39 400 (s_call (FW_x6_sortOf c_x6_sortOf) 1 (s_stI 6 (p_C 0 6 0 <| p_C 1 39 0 <| p_I 2 fun a2 => p_I 3 fun a3 => p_I 4 fun a4 => p_I 5 fun a5 => p_I 6 fun a6 => p_E fun s => K33 s a2 a3 a4 a5 a6))))))))))
    (s_ldA 0 (s_getRc 6 2 29 0 (s_ldI 3 (s_ldI 2 (s_iast 29 401 (s_ldA 0 (s_getRc 6 1 28 0 (s_ldI 3 (s_ic 4000 (s_iast 28 401 (s_vret retV))))))))))))))
  (s_ldA 0 (s_getRc 6 2 29 0 (s_ldI 3 (s_ldI 2 (s_iast 29 401 (s_ldA 0 (s_getRc 6 1 28 0 (s_ldI 3 (s_ic 4000 (s_iast 28 401 (s_vret retV))))))))))))))
set_option maxRecDepth 20000 in
theorem e_x6_cut_b5 (K33 : Sg → Int32 → Int32 → Int32 → Int32 → Int32 → Option Sg) (c_x6_sortOf : Sg → Int32 → Option (Sg × Int32)) (s : Sg) (l2 : Int32) (l3 : Int32) (l4 : Int32) : x6_cut_b5_G K33 c_x6_sortOf s l2 l3 l4 = t_x6_cut_b5 K33 c_x6_sortOf [some (.inr (.inr (some (6, 0)))), some (.inr (.inr (some (39, 0)))), some (.inl l2), some (.inl l3), some (.inl l4), none, none] [] s := rfl
noncomputable def x6_cut_G (K5 : Sg → Int32 → Int32 → Int32 → Option Sg) (s : Sg) (l2 : Int32) : Option Sg :=
  K5 s l2 0 0
noncomputable def x6_cut : Sg → Int32 → Option Sg := x6_cut_G (x6_cut_b5 FU)
noncomputable def t_x6_cut (K5 : Sg → Int32 → Int32 → Int32 → Option Sg) : Bk Sg := (s_ic 0 (s_stI 3 (s_ic 0 (s_stI 4 (p_C 0 6 0 <| p_C 1 39 0 <| p_I 2 fun a2 => p_I 3 fun a3 => p_I 4 fun a4 => p_E fun s => K5 s a2 a3 a4)))))
set_option maxRecDepth 20000 in
theorem e_x6_cut (K5 : Sg → Int32 → Int32 → Int32 → Option Sg) (s : Sg) (l2 : Int32) : x6_cut_G K5 s l2 = t_x6_cut K5 [some (.inr (.inr (some (6, 0)))), some (.inr (.inr (some (39, 0)))), some (.inl l2), none, none, none, none] [] s := rfl
noncomputable def x6_failHere_G (s : Sg) : Option (Sg × Int32) :=
  gif (((rI s 6 0 3) : Int32) < 0) (
    let s1 := wI s 6 0 6 0
    gd (isB 0) (some (s1, 0)))
  (
    gif (((rI s 6 0 3) : Int32) < (Int32.ofNat 401)) (
      gd (inb (rI s 6 0 3) 401) (
      let s2 := wI s 6 0 6 (rI s 29 0 (ix (rI s 6 0 3)))
      gd (isB 0) (some (s2, 0))))
    (
      let s3 := wI s 6 0 6 0
      gd (isB 0) (some (s3, 0))))
noncomputable def x6_failHere : Sg → Option (Sg × Int32) := x6_failHere_G
noncomputable def t_x6_failHere : Bk (Sg × Int32) := (s_ldA 0 (s_ldA 0 (s_getI 6 3 (s_lt0
  (s_ic 0 (s_putI 6 6 (s_ic 0 (s_zret retI))))
  (s_ldA 0 (s_getI 6 3 (s_ldA 0 (s_getRc 6 2 29 0 (s_alen 29 401 (s_clt
    (s_ldA 0 (s_getRc 6 2 29 0 (s_ldA 0 (s_getI 6 3 (s_iald 29 401 (s_goto (s_putI 6 6 (s_ic 0 (s_zret retI)))))))))
    (s_ic 0 (s_putI 6 6 (s_ic 0 (s_zret retI))))))))))))))
set_option maxRecDepth 20000 in
theorem e_x6_failHere (s : Sg) : x6_failHere_G s = t_x6_failHere [some (.inr (.inr (some (6, 0))))] [] s := rfl
noncomputable def x6_sign_G (s : Sg) : Option (Sg × Int32) :=
  gif (((rI s 6 0 3) : Int32) < 0) (
    some (s, 4000))
  (
    gif (((rI s 6 0 3) : Int32) < (Int32.ofNat 401)) (
      gd (inb (rI s 6 0 3) 401) (
      some (s, (rI s 28 0 (ix (rI s 6 0 3))))))
    (
      some (s, 4000)))
noncomputable def x6_sign : Sg → Option (Sg × Int32) := x6_sign_G
noncomputable def t_x6_sign : Bk (Sg × Int32) := (s_ldA 0 (s_getI 6 3 (s_lt0
  (s_ic 4000 (s_iret retI))
  (s_ldA 0 (s_getI 6 3 (s_ldA 0 (s_getRc 6 1 28 0 (s_alen 28 401 (s_clt
    (s_ldA 0 (s_getRc 6 1 28 0 (s_ldA 0 (s_getI 6 3 (s_iald 28 401 (s_goto (s_iret retI)))))))
    (s_ic 4000 (s_iret retI)))))))))))
set_option maxRecDepth 20000 in
theorem e_x6_sign (s : Sg) : x6_sign_G s = t_x6_sign [some (.inr (.inr (some (6, 0))))] [] s := rfl
noncomputable def x6_takeFrom_G (c_x6_sign : Sg → Option (Sg × Int32)) (c_x6_failHere : Sg → Option (Sg × Int32)) (s : Sg) (l1 : Int32) (l2 : Int32) : Option (Sg × Int32) :=
  (c_x6_sign s).bind fun q1 => (
  gif ((q1.2 : Int32) < l1) (
    (c_x6_failHere q1.1).bind fun q2 => (
    some (q2.1, (-1))))
  (
    gif ((l2 : Int32) < q1.2) (
      (c_x6_failHere q1.1).bind fun q3 => (
      some (q3.1, (-1))))
    (
      let s4 := wI q1.1 6 0 3 ((rI q1.1 6 0 3) + 1)
      some (s4, q1.2))))
noncomputable def x6_takeFrom : Sg → Int32 → Int32 → Option (Sg × Int32) := x6_takeFrom_G x6_sign x6_failHere
noncomputable def t_x6_takeFrom (c_x6_sign : Sg → Option (Sg × Int32)) (c_x6_failHere : Sg → Option (Sg × Int32)) : Bk (Sg × Int32) := (s_ldA 0 (s_call (FW_x6_sign c_x6_sign) 1 (s_stI 3 (s_ldI 3 (s_ldI 1 (s_clt
  (s_ldA 0 (s_call (FW_x6_failHere c_x6_failHere) 1 (s_pop (s_ic (-1) (s_iret retI)))))
  (s_ldI 3 (s_ldI 2 (s_cgt
    (s_ldA 0 (s_call (FW_x6_failHere c_x6_failHere) 1 (s_pop (s_ic (-1) (s_iret retI)))))
    (s_ldA 0 (s_dup (s_getI 6 3 (s_ic 1 (s_bin (fun x y => x + y) (s_putI 6 3 (s_ldI 3 (s_iret retI)))))))))))))))))
set_option maxRecDepth 20000 in
theorem e_x6_takeFrom (c_x6_sign : Sg → Option (Sg × Int32)) (c_x6_failHere : Sg → Option (Sg × Int32)) (s : Sg) (l1 : Int32) (l2 : Int32) : x6_takeFrom_G c_x6_sign c_x6_failHere s l1 l2 = t_x6_takeFrom c_x6_sign c_x6_failHere [some (.inr (.inr (some (6, 0)))), some (.inl l1), some (.inl l2), none] [] s := rfl
noncomputable def x8_emit_G (s : Sg) (g0 : Nat) (l1 : Int32) (l2 : Int32) : Option Sg :=
  gif (((rI s 8 g0 7) : Int32) < 0) (
    some s)
  (
    gif (((rI s 8 g0 7) : Int32) < (Int32.ofNat (rN s 36 g0 0))) (
      gd (inb (rI s 8 g0 7) (rN s 36 g0 0)) (
      let s1 := wI s 36 g0 (ix (rI s 8 g0 7)) ((l1 <<< (12 &&& 31)) ||| (l2 &&& 4095))
      let s2 := wI s1 8 g0 7 ((rI s1 8 g0 7) + 1)
      some s2))
    (
      some s))
noncomputable def x8_emit : Sg → Nat → Int32 → Int32 → Option Sg := x8_emit_G
noncomputable def t_x8_emit : Bk Sg := (s_ldA 0 (s_getI 8 7 (s_lt0
  (s_vret retV)
  (s_ldA 0 (s_getI 8 7 (s_ldA 0 (s_getRv 8 5 36 (s_alenC (s_clt
    (s_ldA 0 (s_getRv 8 5 36 (s_ldA 0 (s_getI 8 7 (s_ldI 1 (s_ic 12 (s_bin (fun x y => x <<< (y &&& 31)) (s_ldI 2 (s_ic 4095 (s_bin (fun x y => x &&& y) (s_bin (fun x y => x ||| y) (s_iastC (s_ldA 0 (s_dup (s_getI 8 7 (s_ic 1 (s_bin (fun x y => x + y) (s_putI 8 7 (s_vret retV)))))))))))))))))))
    (s_vret retV))))))))))
set_option maxRecDepth 20000 in
theorem e_x8_emit (s : Sg) (g0 : Nat) (l1 : Int32) (l2 : Int32) : x8_emit_G s g0 l1 l2 = t_x8_emit [some (.inr (.inr (some (8, g0)))), some (.inl l1), some (.inl l2)] [] s := rfl
