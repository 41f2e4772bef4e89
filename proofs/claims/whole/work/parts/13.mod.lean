noncomputable def m_testOf_b28_G (K6 : Sg → Int32 → Int32 → Option (Sg × Int32)) (c_m_bothOf : Sg → Int32 → Option (Sg × Int32)) (s : Sg) (l1 : Int32) (l2 : Int32) (y1 : Int32) : Option (Sg × Int32) :=
  (c_m_bothOf s y1).bind fun q1 => (
  gif ((l2 : Int32) = 0) (
    gif ((q1.2 : Int32) = 0) (
      K6 q1.1 l1 0)
    (
      K6 q1.1 l1 1))
  (
    K6 q1.1 l1 1))
noncomputable def m_testOf_b28 (to : Sg → Int32 → Option (Sg × Int32)) (K6 : Sg → Int32 → Int32 → Option (Sg × Int32)) : Sg → Int32 → Int32 → Int32 → Option (Sg × Int32) := m_testOf_b28_G K6 (m_bothOf to)
noncomputable def t_m_testOf_b28 (K6 : Sg → Int32 → Int32 → Option (Sg × Int32)) (c_m_bothOf : Sg → Int32 → Option (Sg × Int32)) : Bk (Sg × Int32) := (s_call (FW_m_bothOf c_m_bothOf) 2 (s_stI 3 (s_ldI 2 (s_eq0
  (s_ldI 3 (s_eq0
    (s_ic 0 (s_stI 2 (s_goto (p_C 0 10 0 <| p_I 1 fun a1 => p_I 2 fun a2 => p_E fun s => K6 s a1 a2))))
    (s_ic 1 (s_goto (s_stI 2 (s_goto (p_C 0 10 0 <| p_I 1 fun a1 => p_I 2 fun a2 => p_E fun s => K6 s a1 a2)))))))
  (s_ic 1 (s_goto (s_stI 2 (s_goto (p_C 0 10 0 <| p_I 1 fun a1 => p_I 2 fun a2 => p_E fun s => K6 s a1 a2)))))))))
set_option maxRecDepth 20000 in
theorem e_m_testOf_b28 (K6 : Sg → Int32 → Int32 → Option (Sg × Int32)) (c_m_bothOf : Sg → Int32 → Option (Sg × Int32)) (s : Sg) (l1 : Int32) (l2 : Int32) (y1 : Int32) : m_testOf_b28_G K6 c_m_bothOf s l1 l2 y1 = t_m_testOf_b28 K6 c_m_bothOf [some (.inr (.inr (some (10, 0)))), some (.inl l1), some (.inl l2), none] [.inl y1, .inr (.inr (some (10, 0)))] s := rfl
noncomputable def m_testOf_b6_G (K28 : Sg → Int32 → Int32 → Int32 → Option (Sg × Int32)) (c_m_passes0 : Sg → Int32 → Option (Sg × Int32)) (s : Sg) (l1 : Int32) (l2 : Int32) : Option (Sg × Int32) :=
  (c_m_passes0 s 5).bind fun q1 => (
  gif ((q1.2 : Int32) = 0) (
    gd (isB l2) (some (q1.1, l2)))
  (
    gif ((l1 : Int32) = 0) (
      K28 q1.1 l1 l2 0)
    (
      gif ((l2 : Int32) = 0) (
        K28 q1.1 l1 l2 1)
      (
        K28 q1.1 l1 l2 0))))
noncomputable def m_testOf_b6 (to : Sg → Int32 → Option (Sg × Int32)) : Nat → Sg → Int32 → Int32 → Option (Sg × Int32)
  | 0 => fun _ _ _ => none
  | n + 1 => m_testOf_b6_G (m_testOf_b28 to (m_testOf_b6 to n)) m_passes0
noncomputable def t_m_testOf_b6 (K28 : Sg → Int32 → Int32 → Int32 → Option (Sg × Int32)) (c_m_passes0 : Sg → Int32 → Option (Sg × Int32)) : Bk (Sg × Int32) := (s_ldA 0 (s_ic 5 (s_call (FW_m_passes0 c_m_passes0) 2 (s_eq0
  (s_ldI 2 (s_zret retI))
  (s_ldA 0 (s_ldI 1 (s_eq0
    (s_ic 0 (p_C 0 10 0 <| p_I 1 fun a1 => p_I 2 fun a2 => q_I fun b1 => q_C 10 0 <| p_E fun s => K28 s a1 a2 b1))
    (s_ldI 2 (s_eq0
      (s_ic 1 (s_goto (p_C 0 10 0 <| p_I 1 fun a1 => p_I 2 fun a2 => q_I fun b1 => q_C 10 0 <| p_E fun s => K28 s a1 a2 b1)))
      (s_ic 0 (p_C 0 10 0 <| p_I 1 fun a1 => p_I 2 fun a2 => q_I fun b1 => q_C 10 0 <| p_E fun s => K28 s a1 a2 b1)))))))))))
set_option maxRecDepth 20000 in
theorem e_m_testOf_b6 (K28 : Sg → Int32 → Int32 → Int32 → Option (Sg × Int32)) (c_m_passes0 : Sg → Int32 → Option (Sg × Int32)) (s : Sg) (l1 : Int32) (l2 : Int32) : m_testOf_b6_G K28 c_m_passes0 s l1 l2 = t_m_testOf_b6 K28 c_m_passes0 [some (.inr (.inr (some (10, 0)))), some (.inl l1), some (.inl l2), none] [] s := rfl
noncomputable def m_testOf_G (K6 : Sg → Int32 → Int32 → Option (Sg × Int32)) (c_m_bothOf : Sg → Int32 → Option (Sg × Int32)) (s : Sg) (l1 : Int32) : Option (Sg × Int32) :=
  (c_m_bothOf s l1).bind fun q1 => (
  K6 q1.1 l1 q1.2)
noncomputable def m_testOf : Nat → Sg → Int32 → Option (Sg × Int32)
  | 0 => fun _ _ => none
  | d + 1 => m_testOf_G (m_testOf_b6 (m_testOf d) FU) (m_bothOf (m_testOf d))
noncomputable def t_m_testOf (K6 : Sg → Int32 → Int32 → Option (Sg × Int32)) (c_m_bothOf : Sg → Int32 → Option (Sg × Int32)) : Bk (Sg × Int32) := (s_ldA 0 (s_ldI 1 (s_call (FW_m_bothOf c_m_bothOf) 2 (s_stI 2 (p_C 0 10 0 <| p_I 1 fun a1 => p_I 2 fun a2 => p_E fun s => K6 s a1 a2)))))
set_option maxRecDepth 20000 in
theorem e_m_testOf (K6 : Sg → Int32 → Int32 → Option (Sg × Int32)) (c_m_bothOf : Sg → Int32 → Option (Sg × Int32)) (s : Sg) (l1 : Int32) : m_testOf_G K6 c_m_bothOf s l1 = t_m_testOf K6 c_m_bothOf [some (.inr (.inr (some (10, 0)))), some (.inl l1), none, none] [] s := rfl
noncomputable def m_workedOff_G (c_m_sign : Sg → Int32 → Option (Sg × Int32)) (s : Sg) (l1 : Int32) (l2 : Int64) (l4 : Int64) : Option (Sg × Int64) :=
  (c_m_sign s 43).bind fun q1 => (
  gif ((l1 : Int32) = q1.2) (
    some (q1.1, (l2 + l4)))
  (
    (c_m_sign q1.1 45).bind fun q2 => (
    gif ((l1 : Int32) = q2.2) (
      some (q2.1, (l2 - l4)))
    (
      (c_m_sign q2.1 42).bind fun q3 => (
      gif ((l1 : Int32) = q3.2) (
        some (q3.1, (l2 * l4)))
      (
        (c_m_sign q3.1 60).bind fun q4 => (
        gif ((l1 : Int32) = q4.2) (
          gif (((lg_cmp l2 l4) : Int32) < 0) (
            some (q4.1, 1))
          (
            some (q4.1, 0)))
        (
          (c_m_sign q4.1 62).bind fun q5 => (
          gif ((l1 : Int32) = q5.2) (
            gif ((0 : Int32) < (lg_cmp l2 l4)) (
              some (q5.1, 1))
            (
              some (q5.1, 0)))
          (
            (c_m_sign q5.1 61).bind fun q6 => (
            gif ((l1 : Int32) = q6.2) (
              gif (((lg_cmp l2 l4) : Int32) = 0) (
                some (q6.1, 1))
              (
                some (q6.1, 0)))
            (
              gif (((lg_cmp l4 0) : Int32) = 0) (
                gd (isB 1) (
                let s7 := wI q6.1 10 0 27 1
                some (s7, 0)))
              (
                (c_m_sign q6.1 47).bind fun q8 => (
                gif ((l1 : Int32) = q8.2) (
                  gd (¬ l4 = (0 : Int64)) (
                  some (q8.1, (l2 / l4))))
                (
                  gd (¬ l4 = (0 : Int64)) (
                  some (q8.1, (g_lrem l2 l4))))))))))))))))))
noncomputable def m_workedOff : Sg → Int32 → Int64 → Int64 → Option (Sg × Int64) := m_workedOff_G m_sign
noncomputable def t_m_workedOff (c_m_sign : Sg → Int32 → Option (Sg × Int32)) : Bk (Sg × Int64) := (s_ldI 1 (s_ic 43 (s_call (FW_m_sign c_m_sign) 1 (s_ceq
  (s_ldL 2 (s_ldL 4 (s_lbin (fun x y => x + y) (s_lret retL))))
  (s_ldI 1 (s_ic 45 (s_call (FW_m_sign c_m_sign) 1 (s_ceq
    (s_ldL 2 (s_ldL 4 (s_lbin (fun x y => x - y) (s_lret retL))))
    (s_ldI 1 (s_ic 42 (s_call (FW_m_sign c_m_sign) 1 (s_ceq
      (s_ldL 2 (s_ldL 4 (s_lbin (fun x y => x * y) (s_lret retL))))
      (s_ldI 1 (s_ic 60 (s_call (FW_m_sign c_m_sign) 1 (s_ceq
        (s_ldL 2 (s_ldL 4 (s_lcmp (s_lt0
          (s_lc 1 (s_goto (s_lret retL)))
          (s_lc 0 (s_lret retL))))))
        (s_ldI 1 (s_ic 62 (s_call (FW_m_sign c_m_sign) 1 (s_ceq
          (s_ldL 2 (s_ldL 4 (s_lcmp (s_gt0
            (s_lc 1 (s_goto (s_lret retL)))
            (s_lc 0 (s_lret retL))))))
          (s_ldI 1 (s_ic 61 (s_call (FW_m_sign c_m_sign) 1 (s_ceq
            (s_ldL 2 (s_ldL 4 (s_lcmp (s_eq0
              (s_lc 1 (s_goto (s_lret retL)))
              (s_lc 0 (s_lret retL))))))
            (s_ldL 4 (s_lc 0 (s_lcmp (s_eq0
              (s_ldA 0 (s_ic 1 (s_putZ 10 27 (s_lc 0 (s_lret retL)))))
              (s_ldI 1 (s_ic 47 (s_call (FW_m_sign c_m_sign) 1 (s_ceq
                (s_ldL 2 (s_ldL 4 (s_ldivr (fun x y => x / y) (s_goto (s_lret retL)))))
                (s_ldL 2 (s_ldL 4 (s_ldivr g_lrem (s_lret retL))))))))))))))))))))))))))))))))))))
set_option maxRecDepth 20000 in
theorem e_m_workedOff (c_m_sign : Sg → Int32 → Option (Sg × Int32)) (s : Sg) (l1 : Int32) (l2 : Int64) (l4 : Int64) : m_workedOff_G c_m_sign s l1 l2 l4 = t_m_workedOff c_m_sign [some (.inr (.inr (some (10, 0)))), some (.inl l1), some (.inr (.inl l2)), none, some (.inr (.inl l4)), none] [] s := rfl
noncomputable def m_holds_b294_G (s : Sg) (l4 : Int32) (l5 : Int32) : Option (Sg × Int32) :=
  gif (((rI s 10 0 27) : Int32) = 0) (
    gif ((l5 : Int32) = 0) (
      gif ((l4 : Int32) = 1) (
        gd (inb 0 400) (
        let s1 := wL s 10 0 34 (rL s 56 0 (ix 0))
        gd (isB 1) (some (s1, 1))))
      (
        let s2 := wL s 10 0 34 1
        gd (isB 1) (some (s2, 1))))
    (
      gd (inb 0 400) (
      gif (((lg_cmp (rL s 56 0 (ix 0)) 1) : Int32) = 0) (
        gd (isB 1) (some (s, 1)))
      (
        gd (isB 0) (some (s, 0))))))
  (
    gd (isB 0) (some (s, 0)))
noncomputable def m_holds_b294 : Sg → Int32 → Int32 → Option (Sg × Int32) := m_holds_b294_G
noncomputable def t_m_holds_b294 : Bk (Sg × Int32) := (s_ldA 0 (s_getI 10 27 (s_eq0
  (s_ldI 5 (s_eq0
    (s_ldA 0 (s_ldI 4 (s_ic 1 (s_ceq
      (s_ldA 0 (s_getRc 10 33 56 0 (s_ic 0 (s_lald 56 400 (s_goto (s_putL 10 34 (s_ic 1 (s_zret retI))))))))
      (s_lc 1 (s_putL 10 34 (s_ic 1 (s_zret retI))))))))
    (s_ldA 0 (s_getRc 10 33 56 0 (s_ic 0 (s_lald 56 400 (s_lc 1 (s_lcmp (s_eq0
      (s_ic 1 (s_goto (s_zret retI)))
      (s_ic 0 (s_zret retI)))))))))))
  (s_ic 0 (s_zret retI)))))
set_option maxRecDepth 20000 in
theorem e_m_holds_b294 (s : Sg) (l4 : Int32) (l5 : Int32) : m_holds_b294_G s l4 l5 = t_m_holds_b294 [some (.inr (.inr (some (10, 0)))), none, none, none, some (.inl l4), some (.inl l5), none, none] [] s := rfl
noncomputable def m_holds_b222_G (K19 : Sg → Int32 → Int32 → Int32 → Int32 → Int32 → Option (Sg × Int32)) (s : Sg) (l1 : Int32) (l3 : Int32) (l4 : Int32) (l5 : Int32) (l6 : Int32) (y0 : Int32) (y1 : Int32) : Option (Sg × Int32) :=
  gif ((y0 : Int32) = y1) (
    gd (inb (2865 + l6) 5665) (
    K19 s l1 l3 l4 l5 (l1 + (rI s 43 0 (ix (2865 + l6))))))
  (
    K19 s l1 l3 (l4 + (-1)) l5 (l6 + 1))
noncomputable def m_holds_b222 (K19 : Sg → Int32 → Int32 → Int32 → Int32 → Int32 → Option (Sg × Int32)) : Sg → Int32 → Int32 → Int32 → Int32 → Int32 → Int32 → Int32 → Option (Sg × Int32) := m_holds_b222_G K19
noncomputable def t_m_holds_b222 (K19 : Sg → Int32 → Int32 → Int32 → Int32 → Int32 → Option (Sg × Int32)) : Bk (Sg × Int32) := (s_ceq
  (s_ldI 1 (s_ldA 0 (s_getRc 10 2 43 0 (s_ic 2865 (s_ldI 6 (s_bin (fun x y => x + y) (s_iald 43 5665 (s_bin (fun x y => x + y) (s_stI 6 (s_goto (p_C 0 10 0 <| p_I 1 fun a1 => p_I 3 fun a3 => p_I 4 fun a4 => p_I 5 fun a5 => p_I 6 fun a6 => p_E fun s => K19 s a1 a3 a4 a5 a6)))))))))))
  (s_inc 4 (-1) (s_goto (s_inc 6 1 (s_goto (p_C 0 10 0 <| p_I 1 fun a1 => p_I 3 fun a3 => p_I 4 fun a4 => p_I 5 fun a5 => p_I 6 fun a6 => p_E fun s => K19 s a1 a3 a4 a5 a6))))))
set_option maxRecDepth 20000 in
theorem e_m_holds_b222 (K19 : Sg → Int32 → Int32 → Int32 → Int32 → Int32 → Option (Sg × Int32)) (s : Sg) (l1 : Int32) (l3 : Int32) (l4 : Int32) (l5 : Int32) (l6 : Int32) (y0 : Int32) (y1 : Int32) : m_holds_b222_G K19 s l1 l3 l4 l5 l6 y0 y1 = t_m_holds_b222 K19 [some (.inr (.inr (some (10, 0)))), some (.inl l1), none, some (.inl l3), some (.inl l4), some (.inl l5), some (.inl l6), none] [.inl y1, .inl y0] s := rfl
noncomputable def m_holds_b192_G (K222 : Sg → Int32 → Int32 → Int32 → Int32 → Int32 → Int32 → Int32 → Option (Sg × Int32)) (s : Sg) (l1 : Int32) (l3 : Int32) (l4 : Int32) (l5 : Int32) (l6 : Int32) (l7 : Int32) : Option (Sg × Int32) :=
  gd (inb (l4 - 1) 400) (
  gif (((lg_cmp (rL s 56 0 (ix (l4 - 1))) 1) : Int32) = 0) (
    gif ((l7 : Int32) = 5) (
      K222 s l1 l3 l4 l5 l6 1 1)
    (
      K222 s l1 l3 l4 l5 l6 1 0))
  (
    gif ((l7 : Int32) = 5) (
      K222 s l1 l3 l4 l5 l6 0 1)
    (
      K222 s l1 l3 l4 l5 l6 0 0)))
noncomputable def m_holds_b192 (K19 : Sg → Int32 → Int32 → Int32 → Int32 → Int32 → Option (Sg × Int32)) : Sg → Int32 → Int32 → Int32 → Int32 → Int32 → Int32 → Option (Sg × Int32) := m_holds_b192_G (m_holds_b222 K19)
noncomputable def t_m_holds_b192 (K222 : Sg → Int32 → Int32 → Int32 → Int32 → Int32 → Int32 → Int32 → Option (Sg × Int32)) : Bk (Sg × Int32) := (s_ldA 0 (s_getRc 10 33 56 0 (s_ldI 4 (s_ic 1 (s_bin (fun x y => x - y) (s_lald 56 400 (s_lc 1 (s_lcmp (s_eq0
  (s_ic 1 (s_goto (s_ldI 7 (s_ic 5 (s_ceq
    (s_ic 1 (s_goto (p_C 0 10 0 <| p_I 1 fun a1 => p_I 3 fun a3 => p_I 4 fun a4 => p_I 5 fun a5 => p_I 6 fun a6 => q_I fun b1 => q_I fun b0 => p_E fun s => K222 s a1 a3 a4 a5 a6 b0 b1)))
    (s_ic 0 (p_C 0 10 0 <| p_I 1 fun a1 => p_I 3 fun a3 => p_I 4 fun a4 => p_I 5 fun a5 => p_I 6 fun a6 => q_I fun b1 => q_I fun b0 => p_E fun s => K222 s a1 a3 a4 a5 a6 b0 b1)))))))
  (s_ic 0 (s_ldI 7 (s_ic 5 (s_ceq
    (s_ic 1 (s_goto (p_C 0 10 0 <| p_I 1 fun a1 => p_I 3 fun a3 => p_I 4 fun a4 => p_I 5 fun a5 => p_I 6 fun a6 => q_I fun b1 => q_I fun b0 => p_E fun s => K222 s a1 a3 a4 a5 a6 b0 b1)))
    (s_ic 0 (p_C 0 10 0 <| p_I 1 fun a1 => p_I 3 fun a3 => p_I 4 fun a4 => p_I 5 fun a5 => p_I 6 fun a6 => q_I fun b1 => q_I fun b0 => p_E fun s => K222 s a1 a3 a4 a5 a6 b0 b1)))))))))))))))
set_option maxRecDepth 20000 in
theorem e_m_holds_b192 (K222 : Sg → Int32 → Int32 → Int32 → Int32 → Int32 → Int32 → Int32 → Option (Sg × Int32)) (s : Sg) (l1 : Int32) (l3 : Int32) (l4 : Int32) (l5 : Int32) (l6 : Int32) (l7 : Int32) : m_holds_b192_G K222 s l1 l3 l4 l5 l6 l7 = t_m_holds_b192 K222 [some (.inr (.inr (some (10, 0)))), some (.inl l1), none, some (.inl l3), some (.inl l4), some (.inl l5), some (.inl l6), some (.inl l7)] [] s := rfl
noncomputable def m_holds_b114_G (K19 : Sg → Int32 → Int32 → Int32 → Int32 → Int32 → Option (Sg × Int32)) (K192 : Sg → Int32 → Int32 → Int32 → Int32 → Int32 → Int32 → Option (Sg × Int32)) (c_m_workedOff : Sg → Int32 → Int64 → Int64 → Option (Sg × Int64)) (c_m_bounded : Sg → Int64 → Int32 → Option (Sg × Int64)) (s : Sg) (l1 : Int32) (l3 : Int32) (l4 : Int32) (l5 : Int32) (l6 : Int32) (l7 : Int32) : Option (Sg × Int32) :=
  gif ((l7 : Int32) = 4) (
    gif ((l4 : Int32) = 1) (
      gd (inb 0 400) (
      let s1 := wL s 10 0 34 (rL s 56 0 (ix 0))
      K19 s1 l1 l3 0 1 (l6 + 1)))
    (
      let s2 := wL s 10 0 34 1
      K19 s2 l1 l3 0 1 (l6 + 1)))
  (
    gif ((l7 : Int32) = 7) (
      gd (inb (l4 - 1) 400) (
      gd (inb (l4 - 1) 400) (
      let s3 := wL s 56 0 (ix (l4 - 1)) (1 - (rL s 56 0 (ix (l4 - 1))))
      K19 s3 l1 l3 l4 l5 (l6 + 1))))
    (
      gif ((l7 : Int32) = 5) (
        K192 s l1 l3 l4 l5 l6 l7)
      (
        gif ((l7 : Int32) = 6) (
          K192 s l1 l3 l4 l5 l6 l7)
        (
          gd (inb ((l4 + (-1)) - 1) 400) (
          gd (inb (l4 + (-1)) 400) (
          (c_m_workedOff s l7 (rL s 56 0 (ix ((l4 + (-1)) - 1))) (rL s 56 0 (ix (l4 + (-1))))).bind fun q4 => (
          (c_m_bounded q4.1 q4.2 1).bind fun q5 => (
          gd (inb ((l4 + (-1)) - 1) 400) (
          let s6 := wL q5.1 56 0 (ix ((l4 + (-1)) - 1)) q5.2
          K19 s6 l1 l3 (l4 + (-1)) l5 (l6 + 1))))))))))
noncomputable def m_holds_b114 (K19 : Sg → Int32 → Int32 → Int32 → Int32 → Int32 → Option (Sg × Int32)) : Sg → Int32 → Int32 → Int32 → Int32 → Int32 → Int32 → Option (Sg × Int32) := m_holds_b114_G K19 (m_holds_b192 K19) m_workedOff m_bounded
noncomputable def t_m_holds_b114 (K19 : Sg → Int32 → Int32 → Int32 → Int32 → Int32 → Option (Sg × Int32)) (K192 : Sg → Int32 → Int32 → Int32 → Int32 → Int32 → Int32 → Option (Sg × Int32)) (c_m_workedOff : Sg → Int32 → Int64 → Int64 → Option (Sg × Int64)) (c_m_bounded : Sg → Int64 → Int32 → Option (Sg × Int64)) : Bk (Sg × Int32) := (s_ldI 7 (s_ic 4 (s_ceq
  (s_ldA 0 (s_ldI 4 (s_ic 1 (s_ceq
    (s_ldA 0 (s_getRc 10 33 56 0 (s_ic 0 (s_lald 56 400 (s_goto (s_putL 10 34 (s_ic 0 (s_stI 4 (s_ic 1 (s_stI 5 (s_goto (s_inc 6 1 (s_goto (p_C 0 10 0 <| p_I 1 fun a1 => p_I 3 fun a3 => p_I 4 fun a4 => p_I 5 fun a5 => p_I 6 fun a6 => p_E fun s => K19 s a1 a3 a4 a5 a6))))))))))))))
    (s_lc 1 (s_putL 10 34 (s_ic 0 (s_stI 4 (s_ic 1 (s_stI 5 (s_goto (s_inc 6 1 (s_goto (p_C 0 10 0 <| p_I 1 fun a1 => p_I 3 fun a3 => p_I 4 fun a4 => p_I 5 fun a5 => p_I 6 fun a6 => p_E fun s => K19 s a1 a3 a4 a5 a6))))))))))))))
  (s_ldI 7 (s_ic 7 (s_ceq
    (s_ldA 0 (s_getRc 10 33 56 0 (s_ldI 4 (s_ic 1 (s_bin (fun x y => x - y) (s_lc 1 (s_ldA 0 (s_getRc 10 33 56 0 (s_ldI 4 (s_ic 1 (s_bin (fun x y => x - y) (s_lald 56 400 (s_lbin (fun x y => x - y) (s_last 56 400 (s_goto (s_inc 6 1 (s_goto (p_C 0 10 0 <| p_I 1 fun a1 => p_I 3 fun a3 => p_I 4 fun a4 => p_I 5 fun a5 => p_I 6 fun a6 => p_E fun s => K19 s a1 a3 a4 a5 a6))))))))))))))))))
    (s_ldI 7 (s_ic 5 (s_ceq
      (p_C 0 10 0 <| p_I 1 fun a1 => p_I 3 fun a3 => p_I 4 fun a4 => p_I 5 fun a5 => p_I 6 fun a6 => p_I 7 fun a7 => p_E fun s => K192 s a1 a3 a4 a5 a6 a7)
      (s_ldI 7 (s_ic 6 (s_ceq
        (p_C 0 10 0 <| p_I 1 fun a1 => p_I 3 fun a3 => p_I 4 fun a4 => p_I 5 fun a5 => p_I 6 fun a6 => p_I 7 fun a7 => p_E fun s => K192 s a1 a3 a4 a5 a6 a7)
        (s_inc 4 (-1) (s_ldA 0 (s_getRc 10 33 56 0 (s_ldI 4 (s_ic 1 (s_bin (fun x y => x - y) (s_ldA 0 (s_ldA 0 (s_ldI 7 (s_ldA 0 (s_getRc 10 33 56 0 (s_ldI 4 (s_ic 1 (s_bin (fun x y => x - y) (s_lald 56 400 (s_ldA 0 (s_getRc 10 33 56 0 (s_ldI 4 (s_lald 56 400 (s_call (FW_m_workedOff c_m_workedOff) 4 (s_ic 1 (s_call (FW_m_bounded c_m_bounded) 3 (s_last 56 400 (s_inc 6 1 (s_goto (p_C 0 10 0 <| p_I 1 fun a1 => p_I 3 fun a3 => p_I 4 fun a4 => p_I 5 fun a5 => p_I 6 fun a6 => p_E fun s => K19 s a1 a3 a4 a5 a6))))))))))))))))))))))))))))))))))))))
set_option maxRecDepth 20000 in
theorem e_m_holds_b114 (K19 : Sg → Int32 → Int32 → Int32 → Int32 → Int32 → Option (Sg × Int32)) (K192 : Sg → Int32 → Int32 → Int32 → Int32 → Int32 → Int32 → Option (Sg × Int32)) (c_m_workedOff : Sg → Int32 → Int64 → Int64 → Option (Sg × Int64)) (c_m_bounded : Sg → Int64 → Int32 → Option (Sg × Int64)) (s : Sg) (l1 : Int32) (l3 : Int32) (l4 : Int32) (l5 : Int32) (l6 : Int32) (l7 : Int32) : m_holds_b114_G K19 K192 c_m_workedOff c_m_bounded s l1 l3 l4 l5 l6 l7 = t_m_holds_b114 K19 K192 c_m_workedOff c_m_bounded [some (.inr (.inr (some (10, 0)))), some (.inl l1), none, some (.inl l3), some (.inl l4), some (.inl l5), some (.inl l6), some (.inl l7)] [] s := rfl
noncomputable def m_holds_b19_G (K19 : Sg → Int32 → Int32 → Int32 → Int32 → Int32 → Option (Sg × Int32)) (K114 : Sg → Int32 → Int32 → Int32 → Int32 → Int32 → Int32 → Option (Sg × Int32)) (K294 : Sg → Int32 → Int32 → Option (Sg × Int32)) (s : Sg) (l1 : Int32) (l3 : Int32) (l4 : Int32) (l5 : Int32) (l6 : Int32) : Option (Sg × Int32) :=
  gif ((l6 : Int32) < l3) (
    gif (((rI s 10 0 27) : Int32) = 0) (
      gd (inb (65 + l6) 5665) (
      gif (((rI s 43 0 (ix (65 + l6))) : Int32) = 50) (
        gd (inb (2865 + l6) 5665) (
        gd (inb l4 400) (
        let s1 := wL s 56 0 (ix l4) (Int32.toInt64 (rI s 43 0 (ix (2865 + l6))))
        K19 s1 l1 l3 (l4 + 1) l5 (l6 + 1))))
      (
        gif (((rI s 43 0 (ix (65 + l6))) : Int32) < 8) (
          K114 s l1 l3 l4 l5 l6 (rI s 43 0 (ix (65 + l6))))
        (
          gif (((rI s 43 0 (ix (65 + l6))) : Int32) < 16) (
            gd (inb ((rI s 43 0 (ix (65 + l6))) - 8) 8) (
            gd (inb l4 400) (
            let s2 := wL s 56 0 (ix l4) (Int32.toInt64 (rI s 55 0 (ix ((rI s 43 0 (ix (65 + l6))) - 8))))
            K19 s2 l1 l3 (l4 + 1) l5 (l6 + 1))))
          (
            K114 s l1 l3 l4 l5 l6 (rI s 43 0 (ix (65 + l6))))))))
    (
      K294 s l4 l5))
  (
    K294 s l4 l5)
noncomputable def m_holds_b19 : Nat → Sg → Int32 → Int32 → Int32 → Int32 → Int32 → Option (Sg × Int32)
  | 0 => fun _ _ _ _ _ _ => none
  | n + 1 => m_holds_b19_G (m_holds_b19 n) (m_holds_b114 (m_holds_b19 n)) (m_holds_b294)
noncomputable def t_m_holds_b19 (K19 : Sg → Int32 → Int32 → Int32 → Int32 → Int32 → Option (Sg × Int32)) (K114 : Sg → Int32 → Int32 → Int32 → Int32 → Int32 → Int32 → Option (Sg × Int32)) (K294 : Sg → Int32 → Int32 → Option (Sg × Int32)) : Bk (Sg × Int32) := (s_ldI 6 (s_ldI 3 (s_clt
  (s_ldA 0 (s_getI 10 27 (s_eq0
    (s_ldA 0 (s_getRc 10 2 43 0 (s_ic 65 (s_ldI 6 (s_bin (fun x y => x + y) (s_iald 43 5665 (s_stI 7 (s_ldI 7 (s_ic 50 (s_ceq
      (s_ldA 0 (s_getRc 10 33 56 0 (s_ldI 4 (s_ldA 0 (s_getRc 10 2 43 0 (s_ic 2865 (s_ldI 6 (s_bin (fun x y => x + y) (s_iald 43 5665 (s_i2l (s_last 56 400 (s_inc 4 1 (s_goto (s_inc 6 1 (s_goto (p_C 0 10 0 <| p_I 1 fun a1 => p_I 3 fun a3 => p_I 4 fun a4 => p_I 5 fun a5 => p_I 6 fun a6 => p_E fun s => K19 s a1 a3 a4 a5 a6))))))))))))))))
      (s_ldI 7 (s_ic 8 (s_clt
        (p_C 0 10 0 <| p_I 1 fun a1 => p_I 3 fun a3 => p_I 4 fun a4 => p_I 5 fun a5 => p_I 6 fun a6 => p_I 7 fun a7 => p_E fun s => K114 s a1 a3 a4 a5 a6 a7)
        (s_ldI 7 (s_ic 16 (s_clt
          (s_ldA 0 (s_getRc 10 33 56 0 (s_ldI 4 (s_ldA 0 (s_getRc 10 28 55 0 (s_ldI 7 (s_ic 8 (s_bin (fun x y => x - y) (s_iald 55 8 (s_i2l (s_last 56 400 (s_inc 4 1 (s_goto (s_inc 6 1 (s_goto (p_C 0 10 0 <| p_I 1 fun a1 => p_I 3 fun a3 => p_I 4 fun a4 => p_I 5 fun a5 => p_I 6 fun a6 => p_E fun s => K19 s a1 a3 a4 a5 a6))))))))))))))))
          (p_C 0 10 0 <| p_I 1 fun a1 => p_I 3 fun a3 => p_I 4 fun a4 => p_I 5 fun a5 => p_I 6 fun a6 => p_I 7 fun a7 => p_E fun s => K114 s a1 a3 a4 a5 a6 a7)))))))))))))))))
    (p_C 0 10 0 <| p_I 4 fun a4 => p_I 5 fun a5 => p_E fun s => K294 s a4 a5))))
  (p_C 0 10 0 <| p_I 4 fun a4 => p_I 5 fun a5 => p_E fun s => K294 s a4 a5))))
set_option maxRecDepth 20000 in
theorem e_m_holds_b19 (K19 : Sg → Int32 → Int32 → Int32 → Int32 → Int32 → Option (Sg × Int32)) (K114 : Sg → Int32 → Int32 → Int32 → Int32 → Int32 → Int32 → Option (Sg × Int32)) (K294 : Sg → Int32 → Int32 → Option (Sg × Int32)) (s : Sg) (l1 : Int32) (l3 : Int32) (l4 : Int32) (l5 : Int32) (l6 : Int32) : m_holds_b19_G K19 K114 K294 s l1 l3 l4 l5 l6 = t_m_holds_b19 K19 K114 K294 [some (.inr (.inr (some (10, 0)))), some (.inl l1), none, some (.inl l3), some (.inl l4), some (.inl l5), some (.inl l6), none] [] s := rfl
noncomputable def m_holds_G (K19 : Sg → Int32 → Int32 → Int32 → Int32 → Int32 → Option (Sg × Int32)) (s : Sg) (l1 : Int32) (l2 : Int32) (l3 : Int32) : Option (Sg × Int32) :=
  gd (isB 0) (
  let s1 := wI s 10 0 27 0
  let s2 := wL s1 10 0 34 1
  K19 s2 l1 l3 0 0 l2)
noncomputable def m_holds : Sg → Int32 → Int32 → Int32 → Option (Sg × Int32) := m_holds_G (m_holds_b19 FU)
noncomputable def t_m_holds (K19 : Sg → Int32 → Int32 → Int32 → Int32 → Int32 → Option (Sg × Int32)) : Bk (Sg × Int32) := (s_ic 0 (s_stI 4 (s_ic 0 (s_stI 5 (s_ldA 0 (s_ic 0 (s_putZ 10 27 (s_ldA 0 (s_lc 1 (s_putL 10 34 (s_ldI 2 (s_stI 6 (p_C 0 10 0 <| p_I 1 fun a1 => p_I 3 fun a3 => p_I 4 fun a4 => p_I 5 fun a5 => p_I 6 fun a6 => p_E fun s => K19 s a1 a3 a4 a5 a6)))))))))))))
set_option maxRecDepth 20000 in
theorem e_m_holds (K19 : Sg → Int32 → Int32 → Int32 → Int32 → Int32 → Option (Sg × Int32)) (s : Sg) (l1 : Int32) (l2 : Int32) (l3 : Int32) : m_holds_G K19 s l1 l2 l3 = t_m_holds K19 [some (.inr (.inr (some (10, 0)))), some (.inl l1), some (.inl l2), some (.inl l3), none, none, none, none] [] s := rfl
noncomputable def m_tells_b34_G (K34 : Sg → Int32 → Int32 → Int64 → Int32 → Int32 → Option (Sg × Int32)) (c_m_holds : Sg → Int32 → Int32 → Int32 → Option (Sg × Int32)) (s : Sg) (l1 : Int32) (l2 : Int32) (l4 : Int64) (l6 : Int32) (l7 : Int32) : Option (Sg × Int32) :=
  gd (inb 57 5665) (
  gd (inb (58 + (rI s 43 0 (ix 57))) 5665) (
  gif ((l7 : Int32) < (l6 + (rI s 43 0 (ix (58 + (rI s 43 0 (ix 57))))))) (
    gd (inb (2865 + l7) 5665) (
    gd (inb (65 + l7) 5665) (
    gif (((rI s 43 0 (ix (65 + l7))) : Int32) = l1) (
      (c_m_holds s l6 (l7 + 1) (l6 + (rI s 43 0 (ix (2865 + l7))))).bind fun q1 => (
      gif ((q1.2 : Int32) = 0) (
        K34 q1.1 l1 l2 l4 l6 (l6 + (rI s 43 0 (ix (2865 + l7)))))
      (
        gif (((lg_cmp (rL q1.1 10 0 34) 0) : Int32) < 0) (
          K34 q1.1 l1 l2 0 l6 (l6 + (rI s 43 0 (ix (2865 + l7)))))
        (
          gif ((0 : Int32) < (lg_cmp (rL q1.1 10 0 34) (Int32.toInt64 l2))) (
            K34 q1.1 l1 l2 (Int32.toInt64 l2) l6 (l6 + (rI s 43 0 (ix (2865 + l7)))))
          (
            K34 q1.1 l1 l2 (rL q1.1 10 0 34) l6 (l6 + (rI s 43 0 (ix (2865 + l7)))))))))
    (
      K34 s l1 l2 l4 l6 (l6 + (rI s 43 0 (ix (2865 + l7))))))))
  (
    some (s, (Int64.toInt32 l4)))))
noncomputable def m_tells_b34 : Nat → Sg → Int32 → Int32 → Int64 → Int32 → Int32 → Option (Sg × Int32)
  | 0 => fun _ _ _ _ _ _ => none
  | n + 1 => m_tells_b34_G (m_tells_b34 n) m_holds
noncomputable def t_m_tells_b34 (K34 : Sg → Int32 → Int32 → Int64 → Int32 → Int32 → Option (Sg × Int32)) (c_m_holds : Sg → Int32 → Int32 → Int32 → Option (Sg × Int32)) : Bk (Sg × Int32) := (s_ldI 7 (s_ldI 6 (s_ldA 0 (s_getRc 10 2 43 0 (s_ic 58 (s_ldA 0 (s_getRc 10 2 43 0 (s_ic 57 (s_iald 43 5665 (s_bin (fun x y => x + y) (s_iald 43 5665 (s_bin (fun x y => x + y) (s_clt
  (s_ldI 6 (s_ldA 0 (s_getRc 10 2 43 0 (s_ic 2865 (s_ldI 7 (s_bin (fun x y => x + y) (s_iald 43 5665 (s_bin (fun x y => x + y) (s_stI 8 (s_ldA 0 (s_getRc 10 2 43 0 (s_ic 65 (s_ldI 7 (s_bin (fun x y => x + y) (s_iald 43 5665 (s_ldI 1 (s_ceq
    (s_ldA 0 (s_ldI 6 (s_ldI 7 (s_ic 1 (s_bin (fun x y => x + y) (s_ldI 8 (s_call (FW_m_holds c_m_holds) 4 (s_eq0
      (s_ldI 8 (s_stI 7 (s_goto (p_C 0 10 0 <| p_I 1 fun a1 => p_I 2 fun a2 => p_L 4 fun a4 => p_I 6 fun a6 => p_I 7 fun a7 => p_E fun s => K34 s a1 a2 a4 a6 a7))))
      (s_ldA 0 (s_getL 10 34 (s_lc 0 (s_lcmp (s_lt0
        (s_lc 0 (s_goto (s_stL 4 (s_ldI 8 (s_stI 7 (s_goto (p_C 0 10 0 <| p_I 1 fun a1 => p_I 2 fun a2 => p_L 4 fun a4 => p_I 6 fun a6 => p_I 7 fun a7 => p_E fun s => K34 s a1 a2 a4 a6 a7)))))))
        (s_ldA 0 (s_getL 10 34 (s_ldI 2 (s_i2l (s_lcmp (s_gt0
          (s_ldI 2 (s_i2l (s_goto (s_stL 4 (s_ldI 8 (s_stI 7 (s_goto (p_C 0 10 0 <| p_I 1 fun a1 => p_I 2 fun a2 => p_L 4 fun a4 => p_I 6 fun a6 => p_I 7 fun a7 => p_E fun s => K34 s a1 a2 a4 a6 a7))))))))
          (s_ldA 0 (s_getL 10 34 (s_stL 4 (s_ldI 8 (s_stI 7 (s_goto (p_C 0 10 0 <| p_I 1 fun a1 => p_I 2 fun a2 => p_L 4 fun a4 => p_I 6 fun a6 => p_I 7 fun a7 => p_E fun s => K34 s a1 a2 a4 a6 a7))))))))))))))))))))))))))
    (s_ldI 8 (s_stI 7 (s_goto (p_C 0 10 0 <| p_I 1 fun a1 => p_I 2 fun a2 => p_L 4 fun a4 => p_I 6 fun a6 => p_I 7 fun a7 => p_E fun s => K34 s a1 a2 a4 a6 a7)))))))))))))))))))))
  (s_ldL 4 (s_l2i (s_iret retI))))))))))))))))
set_option maxRecDepth 20000 in
theorem e_m_tells_b34 (K34 : Sg → Int32 → Int32 → Int64 → Int32 → Int32 → Option (Sg × Int32)) (c_m_holds : Sg → Int32 → Int32 → Int32 → Option (Sg × Int32)) (s : Sg) (l1 : Int32) (l2 : Int32) (l4 : Int64) (l6 : Int32) (l7 : Int32) : m_tells_b34_G K34 c_m_holds s l1 l2 l4 l6 l7 = t_m_tells_b34 K34 c_m_holds [some (.inr (.inr (some (10, 0)))), some (.inl l1), some (.inl l2), none, some (.inr (.inl l4)), none, some (.inl l6), some (.inl l7), none] [] s := rfl
noncomputable def m_tells_G (K34 : Sg → Int32 → Int32 → Int64 → Int32 → Int32 → Option (Sg × Int32)) (s : Sg) (l1 : Int32) (l2 : Int32) (l3 : Int32) : Option (Sg × Int32) :=
  gd (inb 57 5665) (
  gif (((rI s 43 0 (ix 57)) : Int32) = (-1)) (
    some (s, l3))
  (
    gd (inb 57 5665) (
    K34 s l1 l2 (Int32.toInt64 l3) (400 * (rI s 43 0 (ix 57))) (400 * (rI s 43 0 (ix 57))))))
noncomputable def m_tells : Sg → Int32 → Int32 → Int32 → Option (Sg × Int32) := m_tells_G (m_tells_b34 FU)
noncomputable def t_m_tells (K34 : Sg → Int32 → Int32 → Int64 → Int32 → Int32 → Option (Sg × Int32)) : Bk (Sg × Int32) := (s_ldA 0 (s_getRc 10 2 43 0 (s_ic 57 (s_iald 43 5665 (s_ic (-1) (s_ceq
  (s_ldI 3 (s_iret retI))
  (s_ldI 3 (s_i2l (s_stL 4 (s_ic 400 (s_ldA 0 (s_getRc 10 2 43 0 (s_ic 57 (s_iald 43 5665 (s_bin (fun x y => x * y) (s_stI 6 (s_ldI 6 (s_stI 7 (p_C 0 10 0 <| p_I 1 fun a1 => p_I 2 fun a2 => p_L 4 fun a4 => p_I 6 fun a6 => p_I 7 fun a7 => p_E fun s => K34 s a1 a2 a4 a6 a7)))))))))))))))))))
set_option maxRecDepth 20000 in
theorem e_m_tells (K34 : Sg → Int32 → Int32 → Int64 → Int32 → Int32 → Option (Sg × Int32)) (s : Sg) (l1 : Int32) (l2 : Int32) (l3 : Int32) : m_tells_G K34 s l1 l2 l3 = t_m_tells K34 [some (.inr (.inr (some (10, 0)))), some (.inl l1), some (.inl l2), some (.inl l3), none, none, none, none, none] [] s := rfl
noncomputable def m_leavesOut_b7_G (K7 : Sg → Int32 → Int32 → Option Sg) (c_m_wordMany : Sg → Option (Sg × Int32)) (s : Sg) (l1 : Int32) (l2 : Int32) : Option Sg :=
  (c_m_wordMany s).bind fun q1 => (
  gif ((l2 : Int32) < q1.2) (
    gif ((l2 : Int32) = l1) (
      K7 q1.1 l1 (l2 + 1))
    (
      gd (inb (rI q1.1 10 0 36) 12) (
      let s2 := wI q1.1 57 0 (ix (rI q1.1 10 0 36)) l2
      let s3 := wI s2 10 0 36 ((rI s2 10 0 36) + 1)
      K7 s3 l1 (l2 + 1))))
  (
    some q1.1))
noncomputable def m_leavesOut_b7 : Nat → Sg → Int32 → Int32 → Option Sg
  | 0 => fun _ _ _ => none
  | n + 1 => m_leavesOut_b7_G (m_leavesOut_b7 n) m_wordMany
noncomputable def t_m_leavesOut_b7 (K7 : Sg → Int32 → Int32 → Option Sg) (c_m_wordMany : Sg → Option (Sg × Int32)) : Bk Sg := (s_ldI 2 (s_ldA 0 (s_call (FW_m_wordMany c_m_wordMany) 1 (s_clt
  (s_ldI 2 (s_ldI 1 (s_ceq
    (s_goto (s_inc 2 1 (s_goto (p_C 0 10 0 <| p_I 1 fun a1 => p_I 2 fun a2 => p_E fun s => K7 s a1 a2))))
    (s_ldA 0 (s_getRc 10 35 57 0 (s_ldA 0 (s_getI 10 36 (s_ldI 2 (s_iast 57 12 (s_ldA 0 (s_dup (s_getI 10 36 (s_ic 1 (s_bin (fun x y => x + y) (s_putI 10 36 (s_inc 2 1 (s_goto (p_C 0 10 0 <| p_I 1 fun a1 => p_I 2 fun a2 => p_E fun s => K7 s a1 a2))))))))))))))))))
  (s_vret retV)))))
set_option maxRecDepth 20000 in
theorem e_m_leavesOut_b7 (K7 : Sg → Int32 → Int32 → Option Sg) (c_m_wordMany : Sg → Option (Sg × Int32)) (s : Sg) (l1 : Int32) (l2 : Int32) : m_leavesOut_b7_G K7 c_m_wordMany s l1 l2 = t_m_leavesOut_b7 K7 c_m_wordMany [some (.inr (.inr (some (10, 0)))), some (.inl l1), some (.inl l2)] [] s := rfl
noncomputable def m_leavesOut_G (K7 : Sg → Int32 → Int32 → Option Sg) (s : Sg) (l1 : Int32) : Option Sg :=
  let s1 := wI s 10 0 36 0
  K7 s1 l1 0
noncomputable def m_leavesOut : Sg → Int32 → Option Sg := m_leavesOut_G (m_leavesOut_b7 FU)
noncomputable def t_m_leavesOut (K7 : Sg → Int32 → Int32 → Option Sg) : Bk Sg := (s_ldA 0 (s_ic 0 (s_putI 10 36 (s_ic 0 (s_stI 2 (p_C 0 10 0 <| p_I 1 fun a1 => p_I 2 fun a2 => p_E fun s => K7 s a1 a2))))))
set_option maxRecDepth 20000 in
theorem e_m_leavesOut (K7 : Sg → Int32 → Int32 → Option Sg) (s : Sg) (l1 : Int32) : m_leavesOut_G K7 s l1 = t_m_leavesOut K7 [some (.inr (.inr (some (10, 0)))), some (.inl l1), none] [] s := rfl
noncomputable def m_lastPlace_G (s : Sg) : Option (Sg × Int32) :=
  some (s, ((2 * (rI s 10 0 36)) - 1))
noncomputable def m_lastPlace : Sg → Option (Sg × Int32) := m_lastPlace_G
noncomputable def t_m_lastPlace : Bk (Sg × Int32) := (s_ic 2 (s_ldA 0 (s_getI 10 36 (s_bin (fun x y => x * y) (s_ic 1 (s_bin (fun x y => x - y) (s_iret retI)))))))
set_option maxRecDepth 20000 in
theorem e_m_lastPlace (s : Sg) : m_lastPlace_G s = t_m_lastPlace [some (.inr (.inr (some (10, 0))))] [] s := rfl
noncomputable def m_isWithin_G (s : Sg) (l0 : Int32) : Option (Sg × Int32) :=
  gif ((l0 : Int32) < 0) (
    gd (isB 0) (some (s, 0)))
  (
    gd (¬ 2 = (0 : Int32)) (
    gif (((g_rem l0 2) : Int32) = 0) (
      gd (isB 1) (some (s, 1)))
    (
      gd (isB 0) (some (s, 0)))))
noncomputable def m_isWithin : Sg → Int32 → Option (Sg × Int32) := m_isWithin_G
noncomputable def t_m_isWithin : Bk (Sg × Int32) := (s_ldI 0 (s_lt0
  (s_ic 0 (s_zret retI))
  (s_ldI 0 (s_ic 2 (s_div g_rem (s_eq0
    (s_ic 1 (s_goto (s_zret retI)))
    (s_ic 0 (s_zret retI))))))))
set_option maxRecDepth 20000 in
theorem e_m_isWithin (s : Sg) (l0 : Int32) : m_isWithin_G s l0 = t_m_isWithin [some (.inl l0)] [] s := rfl
noncomputable def m_isPlace_G (s : Sg) (l1 : Int32) : Option (Sg × Int32) :=
  gd (¬ 2 = (0 : Int32)) (
  gif (((g_rem l1 2) : Int32) = 1) (
    gd (isB 1) (some (s, 1)))
  (
    gd (¬ 2 = (0 : Int32)) (
    gd (inb (l1 / 2) 12) (
    gd (inb (15 + (rI s 57 0 (ix (l1 / 2)))) 5665) (
    gif ((0 : Int32) < (rI s 43 0 (ix (15 + (rI s 57 0 (ix (l1 / 2))))))) (
      gd (isB 1) (some (s, 1)))
    (
      gd (isB 0) (some (s, 0))))))))
noncomputable def m_isPlace : Sg → Int32 → Option (Sg × Int32) := m_isPlace_G
noncomputable def t_m_isPlace : Bk (Sg × Int32) := (s_ldI 1 (s_ic 2 (s_div g_rem (s_ic 1 (s_ceq
  (s_ic 1 (s_goto (s_zret retI)))
  (s_ldA 0 (s_getRc 10 2 43 0 (s_ic 15 (s_ldA 0 (s_getRc 10 35 57 0 (s_ldI 1 (s_ic 2 (s_div (fun x y => x / y) (s_iald 57 12 (s_bin (fun x y => x + y) (s_iald 43 5665 (s_gt0
    (s_ic 1 (s_goto (s_zret retI)))
    (s_ic 0 (s_zret retI)))))))))))))))))))
set_option maxRecDepth 20000 in
theorem e_m_isPlace (s : Sg) (l1 : Int32) : m_isPlace_G s l1 = t_m_isPlace [some (.inr (.inr (some (10, 0)))), some (.inl l1)] [] s := rfl
noncomputable def m_addsPiece_G (s : Sg) (l1 : Int32) : Option Sg :=
  gif ((0 : Int32) < (rI s 10 0 37)) (
    let s1 := wI s 10 0 38 ((rI s 10 0 38) + (l1 + 1))
    let s2 := wI s1 10 0 37 ((rI s1 10 0 37) + 1)
    some s2)
  (
    let s3 := wI s 10 0 38 ((rI s 10 0 38) + l1)
    let s4 := wI s3 10 0 37 ((rI s3 10 0 37) + 1)
    some s4)
noncomputable def m_addsPiece : Sg → Int32 → Option Sg := m_addsPiece_G
noncomputable def t_m_addsPiece : Bk Sg := (s_ldA 0 (s_dup (s_getI 10 38 (s_ldA 0 (s_getI 10 37 (s_gt0
  (s_ldI 1 (s_ic 1 (s_bin (fun x y => x + y) (s_goto (s_bin (fun x y => x + y) (s_putI 10 38 (s_ldA 0 (s_dup (s_getI 10 37 (s_ic 1 (s_bin (fun x y => x + y) (s_putI 10 37 (s_vret retV)))))))))))))
  (s_ldI 1 (s_bin (fun x y => x + y) (s_putI 10 38 (s_ldA 0 (s_dup (s_getI 10 37 (s_ic 1 (s_bin (fun x y => x + y) (s_putI 10 37 (s_vret retV))))))))))))))))
set_option maxRecDepth 20000 in
theorem e_m_addsPiece (s : Sg) (l1 : Int32) : m_addsPiece_G s l1 = t_m_addsPiece [some (.inr (.inr (some (10, 0)))), some (.inl l1)] [] s := rfl
noncomputable def m_takesLine_b92_G (K92 : Sg → Int32 → Int32 → Int32 → Option Sg) (c_m_addsPiece : Sg → Int32 → Option Sg) (c_m_isWithin : Sg → Int32 → Option (Sg × Int32)) (s : Sg) (l3 : Int32) (l5 : Int32) (l6 : Int32) : Option Sg :=
  gif ((l6 : Int32) < l5) (
    gd (inb l6 12) (
    gd (inb (2 + (rI s 57 0 (ix l6))) 5665) (
    (c_m_addsPiece s (rI s 43 0 (ix (2 + (rI s 57 0 (ix l6)))))).bind fun s1 => (
    K92 s1 l3 l5 (l6 + 1)))))
  (
    (c_m_isWithin s l3).bind fun q2 => (
    gif ((q2.2 : Int32) = 0) (
      some q2.1)
    (
      gd (¬ 2 = (0 : Int32)) (
      gd (inb (l3 / 2) 12) (
      gd (inb (15 + (rI q2.1 57 0 (ix (l3 / 2)))) 5665) (
      (c_m_addsPiece q2.1 (rI q2.1 43 0 (ix (15 + (rI q2.1 57 0 (ix (l3 / 2))))))).bind fun s3 => (
      let s4 := wI s3 10 0 38 ((rI s3 10 0 38) + 1)
      some s4)))))))
noncomputable def m_takesLine_b92 : Nat → Sg → Int32 → Int32 → Int32 → Option Sg
  | 0 => fun _ _ _ _ => none
  | n + 1 => m_takesLine_b92_G (m_takesLine_b92 n) m_addsPiece m_isWithin
noncomputable def t_m_takesLine_b92 (K92 : Sg → Int32 → Int32 → Int32 → Option Sg) (c_m_addsPiece : Sg → Int32 → Option Sg) (c_m_isWithin : Sg → Int32 → Option (Sg × Int32)) : Bk Sg := (s_ldI 6 (s_ldI 5 (s_clt
  (s_ldA 0 (s_ldA 0 (s_getRc 10 2 43 0 (s_ic 2 (s_ldA 0 (s_getRc 10 35 57 0 (s_ldI 6 (s_iald 57 12 (s_bin (fun x y => x + y) (s_iald 43 5665 (s_call (FW_m_addsPiece c_m_addsPiece) 2 (s_inc 6 1 (s_goto (p_C 0 10 0 <| p_I 3 fun a3 => p_I 5 fun a5 => p_I 6 fun a6 => p_E fun s => K92 s a3 a5 a6))))))))))))))
  (s_ldI 3 (s_call (FW_m_isWithin c_m_isWithin) 1 (s_eq0
    (s_vret retV)
    (s_ldA 0 (s_ldA 0 (s_getRc 10 2 43 0 (s_ic 15 (s_ldA 0 (s_getRc 10 35 57 0 (s_ldI 3 (s_ic 2 (s_div (fun x y => x / y) (s_iald 57 12 (s_bin (fun x y => x + y) (s_iald 43 5665 (s_call (FW_m_addsPiece c_m_addsPiece) 2 (s_ldA 0 (s_dup (s_getI 10 38 (s_ic 1 (s_bin (fun x y => x + y) (s_putI 10 38 (s_vret retV))))))))))))))))))))))))))
set_option maxRecDepth 20000 in
theorem e_m_takesLine_b92 (K92 : Sg → Int32 → Int32 → Int32 → Option Sg) (c_m_addsPiece : Sg → Int32 → Option Sg) (c_m_isWithin : Sg → Int32 → Option (Sg × Int32)) (s : Sg) (l3 : Int32) (l5 : Int32) (l6 : Int32) : m_takesLine_b92_G K92 c_m_addsPiece c_m_isWithin s l3 l5 l6 = t_m_takesLine_b92 K92 c_m_addsPiece c_m_isWithin [some (.inr (.inr (some (10, 0)))), none, none, some (.inl l3), none, some (.inl l5), some (.inl l6)] [] s := rfl
noncomputable def m_takesLine_b69_G (K92 : Sg → Int32 → Int32 → Int32 → Option Sg) (s : Sg) (l2 : Int32) (l3 : Int32) : Option Sg :=
  gd (¬ 2 = (0 : Int32)) (
  gif ((l2 : Int32) = (-1)) (
    K92 s l3 ((l3 + 1) / 2) 0)
  (
    gd (¬ 2 = (0 : Int32)) (
    K92 s l3 ((l3 + 1) / 2) ((l2 / 2) + 1))))
noncomputable def m_takesLine_b69 : Sg → Int32 → Int32 → Option Sg := m_takesLine_b69_G (m_takesLine_b92 FU)
noncomputable def t_m_takesLine_b69 (K92 : Sg → Int32 → Int32 → Int32 → Option Sg) : Bk Sg := (s_ldI 3 (s_ic 1 (s_bin (fun x y => x + y) (s_ic 2 (s_div (fun x y => x / y) (s_stI 5 (s_ldI 2 (s_ic (-1) (s_ceq
  (s_ic 0 (s_goto (s_stI 6 (p_C 0 10 0 <| p_I 3 fun a3 => p_I 5 fun a5 => p_I 6 fun a6 => p_E fun s => K92 s a3 a5 a6))))
  (s_ldI 2 (s_ic 2 (s_div (fun x y => x / y) (s_ic 1 (s_bin (fun x y => x + y) (s_stI 6 (p_C 0 10 0 <| p_I 3 fun a3 => p_I 5 fun a5 => p_I 6 fun a6 => p_E fun s => K92 s a3 a5 a6))))))))))))))))
set_option maxRecDepth 20000 in
theorem e_m_takesLine_b69 (K92 : Sg → Int32 → Int32 → Int32 → Option Sg) (s : Sg) (l2 : Int32) (l3 : Int32) : m_takesLine_b69_G K92 s l2 l3 = t_m_takesLine_b69 K92 [some (.inr (.inr (some (10, 0)))), none, some (.inl l2), some (.inl l3), none, none, none] [] s := rfl
noncomputable def m_takesLine_G (K69 : Sg → Int32 → Int32 → Option Sg) (c_m_isWithin : Sg → Int32 → Option (Sg × Int32)) (c_m_addsPiece : Sg → Int32 → Option Sg) (s : Sg) (l1 : Int32) (l2 : Int32) (l3 : Int32) (l4 : Int32) : Option Sg :=
  let s1 := wI s 10 0 37 0
  let s2 := wI s1 10 0 38 0
  let s3 := wI s2 10 0 39 l1
  let s4 := wI s3 10 0 40 l3
  let s5 := wI s4 10 0 41 l4
  (c_m_isWithin s5 l2).bind fun q6 => (
  gif ((q6.2 : Int32) = 0) (
    K69 q6.1 l2 l3)
  (
    gd (¬ 2 = (0 : Int32)) (
    gd (inb (l2 / 2) 12) (
    gd (inb (2 + (rI q6.1 57 0 (ix (l2 / 2)))) 5665) (
    gd (¬ 2 = (0 : Int32)) (
    gd (inb (l2 / 2) 12) (
    gd (inb (15 + (rI q6.1 57 0 (ix (l2 / 2)))) 5665) (
    (c_m_addsPiece q6.1 ((rI q6.1 43 0 (ix (2 + (rI q6.1 57 0 (ix (l2 / 2)))))) - (rI q6.1 43 0 (ix (15 + (rI q6.1 57 0 (ix (l2 / 2)))))))).bind fun s7 => (
    K69 s7 l2 l3)))))))))
noncomputable def m_takesLine : Sg → Int32 → Int32 → Int32 → Int32 → Option Sg := m_takesLine_G (m_takesLine_b69) m_isWithin m_addsPiece
noncomputable def t_m_takesLine (K69 : Sg → Int32 → Int32 → Option Sg) (c_m_isWithin : Sg → Int32 → Option (Sg × Int32)) (c_m_addsPiece : Sg → Int32 → Option Sg) : Bk Sg := (s_ldA 0 (s_ic 0 (s_putI 10 37 (s_ldA 0 (s_ic 0 (s_putI 10 38 (s_ldA 0 (s_ldI 1 (s_putI 10 39 (s_ldA 0 (s_ldI 3 (s_putI 10 40 (s_ldA 0 (s_ldI 4 (s_putI 10 41 (s_ldI 2 (s_call (FW_m_isWithin c_m_isWithin) 1 (s_eq0
  (p_C 0 10 0 <| p_I 2 fun a2 => p_I 3 fun a3 => p_E fun s => K69 s a2 a3)
  (s_ldA 0 (s_ldA 0 (s_getRc 10 2 43 0 (s_ic 2 (s_ldA 0 (s_getRc 10 35 57 0 (s_ldI 2 (s_ic 2 (s_div (fun x y => x / y) (s_iald 57 12 (s_bin (fun x y => x + y) (s_iald 43 5665 (s_ldA 0 (s_getRc 10 2 43 0 (s_ic 15 (s_ldA 0 (s_getRc 10 35 57 0 (s_ldI 2 (s_ic 2 (s_div (fun x y => x / y) (s_iald 57 12 (s_bin (fun x y => x + y) (s_iald 43 5665 (s_bin (fun x y => x - y) (s_call (FW_m_addsPiece c_m_addsPiece) 2 (p_C 0 10 0 <| p_I 2 fun a2 => p_I 3 fun a3 => p_E fun s => K69 s a2 a3))))))))))))))))))))))))))))))))))))))))))))
set_option maxRecDepth 20000 in
theorem e_m_takesLine (K69 : Sg → Int32 → Int32 → Option Sg) (c_m_isWithin : Sg → Int32 → Option (Sg × Int32)) (c_m_addsPiece : Sg → Int32 → Option Sg) (s : Sg) (l1 : Int32) (l2 : Int32) (l3 : Int32) (l4 : Int32) : m_takesLine_G K69 c_m_isWithin c_m_addsPiece s l1 l2 l3 l4 = t_m_takesLine K69 c_m_isWithin c_m_addsPiece [some (.inr (.inr (some (10, 0)))), some (.inl l1), some (.inl l2), some (.inl l3), some (.inl l4), none, none] [] s := rfl
noncomputable def m_isLastLine_G (c_m_lastPlace : Sg → Option (Sg × Int32)) (s : Sg) : Option (Sg × Int32) :=
  (c_m_lastPlace s).bind fun q1 => (
  gif (((rI s 10 0 40) : Int32) = q1.2) (
    gd (isB 1) (some (q1.1, 1)))
  (
    gd (isB 0) (some (q1.1, 0))))
noncomputable def m_isLastLine : Sg → Option (Sg × Int32) := m_isLastLine_G m_lastPlace
noncomputable def t_m_isLastLine (c_m_lastPlace : Sg → Option (Sg × Int32)) : Bk (Sg × Int32) := (s_ldA 0 (s_getI 10 40 (s_ldA 0 (s_call (FW_m_lastPlace c_m_lastPlace) 1 (s_ceq
  (s_ic 1 (s_goto (s_zret retI)))
  (s_ic 0 (s_zret retI)))))))
set_option maxRecDepth 20000 in
theorem e_m_isLastLine (c_m_lastPlace : Sg → Option (Sg × Int32)) (s : Sg) : m_isLastLine_G c_m_lastPlace s = t_m_isLastLine c_m_lastPlace [some (.inr (.inr (some (10, 0))))] [] s := rfl
noncomputable def m_setsAsked_b73_G (s : Sg) (y1 : Int32) (y2 : Int32) : Option Sg :=
  gd (inb y1 8) (
  let s1 := wI s 55 0 (ix y1) y2
  gd (¬ 2 = (0 : Int32)) (
  gd (inb ((rI s1 10 0 40) / 2) 12) (
  gd (inb (27 + (rI s1 57 0 (ix ((rI s1 10 0 40) / 2)))) 5665) (
  gd (inb 5 8) (
  let s2 := wI s1 55 0 (ix 5) (rI s1 43 0 (ix (27 + (rI s1 57 0 (ix ((rI s1 10 0 40) / 2))))))
  gd (inb 52 5665) (
  gd (inb 6 8) (
  let s3 := wI s2 55 0 (ix 6) (rI s2 43 0 (ix 52))
  gd (inb 14 5665) (
  gd (inb 7 8) (
  let s4 := wI s3 55 0 (ix 7) (rI s3 43 0 (ix 14))
  some s4)))))))))
noncomputable def m_setsAsked_b73 : Sg → Int32 → Int32 → Option Sg := m_setsAsked_b73_G
noncomputable def t_m_setsAsked_b73 : Bk Sg := (s_iast 55 8 (s_ldA 0 (s_getRc 10 28 55 0 (s_ic 5 (s_ldA 0 (s_getRc 10 2 43 0 (s_ic 27 (s_ldA 0 (s_getRc 10 35 57 0 (s_ldA 0 (s_getI 10 40 (s_ic 2 (s_div (fun x y => x / y) (s_iald 57 12 (s_bin (fun x y => x + y) (s_iald 43 5665 (s_iast 55 8 (s_ldA 0 (s_getRc 10 28 55 0 (s_ic 6 (s_ldA 0 (s_getRc 10 2 43 0 (s_ic 52 (s_iald 43 5665 (s_iast 55 8 (s_ldA 0 (s_getRc 10 28 55 0 (s_ic 7 (s_ldA 0 (s_getRc 10 2 43 0 (s_ic 14 (s_iald 43 5665 (s_iast 55 8 (s_vret retV))))))))))))))))))))))))))))))))))
set_option maxRecDepth 20000 in
theorem e_m_setsAsked_b73 (s : Sg) (y1 : Int32) (y2 : Int32) : m_setsAsked_b73_G s y1 y2 = t_m_setsAsked_b73 [some (.inr (.inr (some (10, 0))))] [.inl y2, .inl y1, .inr (.inr (some (55, 0)))] s := rfl
noncomputable def m_setsAsked_G (K73 : Sg → Int32 → Int32 → Option Sg) (c_m_isWithin : Sg → Int32 → Option (Sg × Int32)) (c_m_isLastLine : Sg → Option (Sg × Int32)) (s : Sg) : Option Sg :=
  gd (inb 0 8) (
  let s1 := wI s 55 0 (ix 0) (rI s 10 0 39)
  gd (inb 1 8) (
  let s2 := wI s1 55 0 (ix 1) (rI s1 10 0 37)
  gd (inb 2 8) (
  let s3 := wI s2 55 0 (ix 2) ((rI s2 10 0 41) - (rI s2 10 0 38))
  (c_m_isWithin s3 (rI s3 10 0 40)).bind fun q4 => (
  gif ((q4.2 : Int32) = 0) (
    gd (inb 3 8) (
    let s5 := wI q4.1 55 0 (ix 3) 0
    (c_m_isLastLine s5).bind fun q6 => (
    gif ((q6.2 : Int32) = 0) (
      K73 q6.1 4 0)
    (
      K73 q6.1 4 1))))
  (
    gd (inb 3 8) (
    let s7 := wI q4.1 55 0 (ix 3) 1
    (c_m_isLastLine s7).bind fun q8 => (
    gif ((q8.2 : Int32) = 0) (
      K73 q8.1 4 0)
    (
      K73 q8.1 4 1))))))))
noncomputable def m_setsAsked : Sg → Option Sg := m_setsAsked_G (m_setsAsked_b73) m_isWithin m_isLastLine
noncomputable def t_m_setsAsked (K73 : Sg → Int32 → Int32 → Option Sg) (c_m_isWithin : Sg → Int32 → Option (Sg × Int32)) (c_m_isLastLine : Sg → Option (Sg × Int32)) : Bk Sg := (s_ldA 0 (s_getRc 10 28 55 0 (s_ic 0 (s_ldA 0 (s_getI 10 39 (s_iast 55 8 (s_ldA 0 (s_getRc 10 28 55 0 (s_ic 1 (s_ldA 0 (s_getI 10 37 (s_iast 55 8 (s_ldA 0 (s_getRc 10 28 55 0 (s_ic 2 (s_ldA 0 (s_getI 10 41 (s_ldA 0 (s_getI 10 38 (s_bin (fun x y => x - y) (s_iast 55 8 (s_ldA 0 (s_getRc 10 28 55 0 (s_ic 3 (s_ldA 0 (s_getI 10 40 (s_call (FW_m_isWithin c_m_isWithin) 1 (s_eq0
  (s_ic 0 (s_iast 55 8 (s_ldA 0 (s_getRc 10 28 55 0 (s_ic 4 (s_ldA 0 (s_call (FW_m_isLastLine c_m_isLastLine) 1 (s_eq0
    (s_ic 0 (p_C 0 10 0 <| q_I fun b2 => q_I fun b1 => q_C 55 0 <| p_E fun s => K73 s b1 b2))
    (s_ic 1 (s_goto (p_C 0 10 0 <| q_I fun b2 => q_I fun b1 => q_C 55 0 <| p_E fun s => K73 s b1 b2)))))))))))
  (s_ic 1 (s_goto (s_iast 55 8 (s_ldA 0 (s_getRc 10 28 55 0 (s_ic 4 (s_ldA 0 (s_call (FW_m_isLastLine c_m_isLastLine) 1 (s_eq0
    (s_ic 0 (p_C 0 10 0 <| q_I fun b2 => q_I fun b1 => q_C 55 0 <| p_E fun s => K73 s b1 b2))
    (s_ic 1 (s_goto (p_C 0 10 0 <| q_I fun b2 => q_I fun b1 => q_C 55 0 <| p_E fun s => K73 s b1 b2))))))))))))))))))))))))))))))))))))))))
set_option maxRecDepth 20000 in
theorem e_m_setsAsked (K73 : Sg → Int32 → Int32 → Option Sg) (c_m_isWithin : Sg → Int32 → Option (Sg × Int32)) (c_m_isLastLine : Sg → Option (Sg × Int32)) (s : Sg) : m_setsAsked_G K73 c_m_isWithin c_m_isLastLine s = t_m_setsAsked K73 c_m_isWithin c_m_isLastLine [some (.inr (.inr (some (10, 0))))] [] s := rfl
noncomputable def m_costsNow_G (c_m_setsAsked : Sg → Option Sg) (c_m_isLastLine : Sg → Option (Sg × Int32)) (c_m_greater : Sg → Int32 → Int32 → Option (Sg × Int32)) (c_m_tells : Sg → Int32 → Int32 → Int32 → Option (Sg × Int32)) (s : Sg) : Option (Sg × Int32) :=
  (c_m_setsAsked s).bind fun s1 => (
  (c_m_isLastLine s1).bind fun q2 => (
  gif ((q2.2 : Int32) = 0) (
    (c_m_greater q2.1 0 ((rI q2.1 10 0 41) - (rI q2.1 10 0 38))).bind fun q3 => (
    (c_m_tells q3.1 1 999 q3.2).bind fun q4 => (
    some (q4.1, q4.2))))
  (
    (c_m_tells q2.1 1 999 0).bind fun q5 => (
    some (q5.1, q5.2)))))
noncomputable def m_costsNow : Sg → Option (Sg × Int32) := m_costsNow_G m_setsAsked m_isLastLine m_greater m_tells
noncomputable def t_m_costsNow (c_m_setsAsked : Sg → Option Sg) (c_m_isLastLine : Sg → Option (Sg × Int32)) (c_m_greater : Sg → Int32 → Int32 → Option (Sg × Int32)) (c_m_tells : Sg → Int32 → Int32 → Int32 → Option (Sg × Int32)) : Bk (Sg × Int32) := (s_ldA 0 (s_call (FW_m_setsAsked c_m_setsAsked) 1 (s_ldA 0 (s_ic 1 (s_ic 999 (s_ldA 0 (s_call (FW_m_isLastLine c_m_isLastLine) 1 (s_eq0
  (s_ic 0 (s_ldA 0 (s_getI 10 41 (s_ldA 0 (s_getI 10 38 (s_bin (fun x y => x - y) (s_call (FW_m_greater c_m_greater) 2 (s_call (FW_m_tells c_m_tells) 4 (s_iret retI)))))))))
  (s_ic 0 (s_goto (s_call (FW_m_tells c_m_tells) 4 (s_iret retI))))))))))))
set_option maxRecDepth 20000 in
theorem e_m_costsNow (c_m_setsAsked : Sg → Option Sg) (c_m_isLastLine : Sg → Option (Sg × Int32)) (c_m_greater : Sg → Int32 → Int32 → Option (Sg × Int32)) (c_m_tells : Sg → Int32 → Int32 → Int32 → Option (Sg × Int32)) (s : Sg) : m_costsNow_G c_m_setsAsked c_m_isLastLine c_m_greater c_m_tells s = t_m_costsNow c_m_setsAsked c_m_isLastLine c_m_greater c_m_tells [some (.inr (.inr (some (10, 0))))] [] s := rfl
noncomputable def m_paysNow_G (c_m_setsAsked : Sg → Option Sg) (c_m_tells : Sg → Int32 → Int32 → Int32 → Option (Sg × Int32)) (s : Sg) : Option (Sg × Int32) :=
  (c_m_setsAsked s).bind fun s1 => (
  (c_m_tells s1 2 99 (rI s1 10 0 37)).bind fun q2 => (
  some (q2.1, q2.2)))
noncomputable def m_paysNow : Sg → Option (Sg × Int32) := m_paysNow_G m_setsAsked m_tells
noncomputable def t_m_paysNow (c_m_setsAsked : Sg → Option Sg) (c_m_tells : Sg → Int32 → Int32 → Int32 → Option (Sg × Int32)) : Bk (Sg × Int32) := (s_ldA 0 (s_call (FW_m_setsAsked c_m_setsAsked) 1 (s_ldA 0 (s_ic 2 (s_ic 99 (s_ldA 0 (s_getI 10 37 (s_call (FW_m_tells c_m_tells) 4 (s_iret retI)))))))))
set_option maxRecDepth 20000 in
theorem e_m_paysNow (c_m_setsAsked : Sg → Option Sg) (c_m_tells : Sg → Int32 → Int32 → Int32 → Option (Sg × Int32)) (s : Sg) : m_paysNow_G c_m_setsAsked c_m_tells s = t_m_paysNow c_m_setsAsked c_m_tells [some (.inr (.inr (some (10, 0))))] [] s := rfl
noncomputable def m_isBarred_G (c_m_setsAsked : Sg → Option Sg) (c_m_tells : Sg → Int32 → Int32 → Int32 → Option (Sg × Int32)) (s : Sg) : Option (Sg × Int32) :=
  (c_m_setsAsked s).bind fun s1 => (
  (c_m_tells s1 3 1 0).bind fun q2 => (
  gif ((q2.2 : Int32) = 1) (
    gd (isB 1) (some (q2.1, 1)))
  (
    gd (isB 0) (some (q2.1, 0)))))
noncomputable def m_isBarred : Sg → Option (Sg × Int32) := m_isBarred_G m_setsAsked m_tells
noncomputable def t_m_isBarred (c_m_setsAsked : Sg → Option Sg) (c_m_tells : Sg → Int32 → Int32 → Int32 → Option (Sg × Int32)) : Bk (Sg × Int32) := (s_ldA 0 (s_call (FW_m_setsAsked c_m_setsAsked) 1 (s_ldA 0 (s_ic 3 (s_ic 1 (s_ic 0 (s_call (FW_m_tells c_m_tells) 4 (s_ic 1 (s_ceq
  (s_ic 1 (s_goto (s_zret retI)))
  (s_ic 0 (s_zret retI)))))))))))
set_option maxRecDepth 20000 in
theorem e_m_isBarred (c_m_setsAsked : Sg → Option Sg) (c_m_tells : Sg → Int32 → Int32 → Int32 → Option (Sg × Int32)) (s : Sg) : m_isBarred_G c_m_setsAsked c_m_tells s = t_m_isBarred c_m_setsAsked c_m_tells [some (.inr (.inr (some (10, 0))))] [] s := rfl
noncomputable def m_fitsNow_G (c_m_isBarred : Sg → Option (Sg × Int32)) (s : Sg) : Option (Sg × Int32) :=
  gif (((rI s 10 0 41) : Int32) < (rI s 10 0 38)) (
    gd (isB 0) (some (s, 0)))
  (
    (c_m_isBarred s).bind fun q1 => (
    gif ((q1.2 : Int32) = 0) (
      gd (isB 1) (some (q1.1, 1)))
    (
      gd (isB 0) (some (q1.1, 0)))))
noncomputable def m_fitsNow : Sg → Option (Sg × Int32) := m_fitsNow_G m_isBarred
noncomputable def t_m_fitsNow (c_m_isBarred : Sg → Option (Sg × Int32)) : Bk (Sg × Int32) := (s_ldA 0 (s_getI 10 38 (s_ldA 0 (s_getI 10 41 (s_cgt
  (s_ic 0 (s_zret retI))
  (s_ldA 0 (s_call (FW_m_isBarred c_m_isBarred) 1 (s_eq0
    (s_ic 1 (s_goto (s_zret retI)))
    (s_ic 0 (s_zret retI))))))))))
set_option maxRecDepth 20000 in
theorem e_m_fitsNow (c_m_isBarred : Sg → Option (Sg × Int32)) (s : Sg) : m_fitsNow_G c_m_isBarred s = t_m_fitsNow c_m_isBarred [some (.inr (.inr (some (10, 0))))] [] s := rfl
noncomputable def m_laysSetting_b45_G (K7 : Sg → Int32 → Option Sg) (c_m_endsAfter : Sg → Int32 → Option (Sg × Int32)) (s : Sg) (l1 : Int32) : Option Sg :=
  (c_m_endsAfter s l1).bind fun q1 => (
  gif ((q1.2 : Int32) = 0) (
    K7 q1.1 (l1 + 1))
  (
    gd (inb (rI q1.1 10 0 43) 24) (
    let s2 := wI q1.1 58 0 (ix (rI q1.1 10 0 43)) ((2 * l1) + 1)
    let s3 := wI s2 10 0 43 ((rI s2 10 0 43) + 1)
    K7 s3 (l1 + 1))))
noncomputable def m_laysSetting_b45 (K7 : Sg → Int32 → Option Sg) : Sg → Int32 → Option Sg := m_laysSetting_b45_G K7 m_endsAfter
noncomputable def t_m_laysSetting_b45 (K7 : Sg → Int32 → Option Sg) (c_m_endsAfter : Sg → Int32 → Option (Sg × Int32)) : Bk Sg := (s_ldA 0 (s_ldI 1 (s_call (FW_m_endsAfter c_m_endsAfter) 2 (s_eq0
  (s_inc 1 1 (s_goto (p_C 0 10 0 <| p_I 1 fun a1 => p_E fun s => K7 s a1)))
  (s_ldA 0 (s_getRc 10 42 58 0 (s_ldA 0 (s_getI 10 43 (s_ic 2 (s_ldI 1 (s_bin (fun x y => x * y) (s_ic 1 (s_bin (fun x y => x + y) (s_iast 58 24 (s_ldA 0 (s_dup (s_getI 10 43 (s_ic 1 (s_bin (fun x y => x + y) (s_putI 10 43 (s_inc 1 1 (s_goto (p_C 0 10 0 <| p_I 1 fun a1 => p_E fun s => K7 s a1)))))))))))))))))))))))
set_option maxRecDepth 20000 in
theorem e_m_laysSetting_b45 (K7 : Sg → Int32 → Option Sg) (c_m_endsAfter : Sg → Int32 → Option (Sg × Int32)) (s : Sg) (l1 : Int32) : m_laysSetting_b45_G K7 c_m_endsAfter s l1 = t_m_laysSetting_b45 K7 c_m_endsAfter [some (.inr (.inr (some (10, 0)))), some (.inl l1)] [] s := rfl
noncomputable def m_laysSetting_b7_G (K45 : Sg → Int32 → Option Sg) (c_m_wordMany : Sg → Option (Sg × Int32)) (c_m_isSplit : Sg → Int32 → Option (Sg × Int32)) (s : Sg) (l1 : Int32) : Option Sg :=
  (c_m_wordMany s).bind fun q1 => (
  gif ((l1 : Int32) < q1.2) (
    (c_m_isSplit q1.1 l1).bind fun q2 => (
    gif ((q2.2 : Int32) = 0) (
      K45 q2.1 l1)
    (
      gd (inb (rI q2.1 10 0 43) 24) (
      let s3 := wI q2.1 58 0 (ix (rI q2.1 10 0 43)) (2 * l1)
      let s4 := wI s3 10 0 43 ((rI s3 10 0 43) + 1)
      K45 s4 l1))))
  (
    some q1.1))
noncomputable def m_laysSetting_b7 : Nat → Sg → Int32 → Option Sg
  | 0 => fun _ _ => none
  | n + 1 => m_laysSetting_b7_G (m_laysSetting_b45 (m_laysSetting_b7 n)) m_wordMany m_isSplit
noncomputable def t_m_laysSetting_b7 (K45 : Sg → Int32 → Option Sg) (c_m_wordMany : Sg → Option (Sg × Int32)) (c_m_isSplit : Sg → Int32 → Option (Sg × Int32)) : Bk Sg := (s_ldI 1 (s_ldA 0 (s_call (FW_m_wordMany c_m_wordMany) 1 (s_clt
  (s_ldA 0 (s_ldI 1 (s_call (FW_m_isSplit c_m_isSplit) 2 (s_eq0
    (p_C 0 10 0 <| p_I 1 fun a1 => p_E fun s => K45 s a1)
    (s_ldA 0 (s_getRc 10 42 58 0 (s_ldA 0 (s_getI 10 43 (s_ic 2 (s_ldI 1 (s_bin (fun x y => x * y) (s_iast 58 24 (s_ldA 0 (s_dup (s_getI 10 43 (s_ic 1 (s_bin (fun x y => x + y) (s_putI 10 43 (p_C 0 10 0 <| p_I 1 fun a1 => p_E fun s => K45 s a1)))))))))))))))))))
  (s_vret retV)))))
set_option maxRecDepth 20000 in
theorem e_m_laysSetting_b7 (K45 : Sg → Int32 → Option Sg) (c_m_wordMany : Sg → Option (Sg × Int32)) (c_m_isSplit : Sg → Int32 → Option (Sg × Int32)) (s : Sg) (l1 : Int32) : m_laysSetting_b7_G K45 c_m_wordMany c_m_isSplit s l1 = t_m_laysSetting_b7 K45 c_m_wordMany c_m_isSplit [some (.inr (.inr (some (10, 0)))), some (.inl l1)] [] s := rfl
noncomputable def m_laysSetting_G (K7 : Sg → Int32 → Option Sg) (s : Sg) : Option Sg :=
  let s1 := wI s 10 0 43 0
  K7 s1 0
noncomputable def m_laysSetting : Sg → Option Sg := m_laysSetting_G (m_laysSetting_b7 FU)
noncomputable def t_m_laysSetting (K7 : Sg → Int32 → Option Sg) : Bk Sg := (s_ldA 0 (s_ic 0 (s_putI 10 43 (s_ic 0 (s_stI 1 (p_C 0 10 0 <| p_I 1 fun a1 => p_E fun s => K7 s a1))))))
set_option maxRecDepth 20000 in
theorem e_m_laysSetting (K7 : Sg → Int32 → Option Sg) (s : Sg) : m_laysSetting_G K7 s = t_m_laysSetting K7 [some (.inr (.inr (some (10, 0)))), none] [] s := rfl
noncomputable def m_takesSet_G (c_m_takesLine : Sg → Int32 → Int32 → Int32 → Int32 → Option Sg) (s : Sg) (l1 : Int32) : Option Sg :=
  gif ((l1 : Int32) = 0) (
    gd (inb l1 24) (
    gd (inb 53 5665) (
    (c_m_takesLine s l1 (-1) (rI s 58 0 (ix l1)) (rI s 43 0 (ix 53))).bind fun s1 => (
    some s1))))
  (
    gd (inb (l1 - 1) 24) (
    gd (inb l1 24) (
    gd (inb 53 5665) (
    (c_m_takesLine s l1 (rI s 58 0 (ix (l1 - 1))) (rI s 58 0 (ix l1)) (rI s 43 0 (ix 53))).bind fun s2 => (
    some s2)))))
noncomputable def m_takesSet : Sg → Int32 → Option Sg := m_takesSet_G m_takesLine
noncomputable def t_m_takesSet (c_m_takesLine : Sg → Int32 → Int32 → Int32 → Int32 → Option Sg) : Bk Sg := (s_ldA 0 (s_ldI 1 (s_ldI 1 (s_eq0
  (s_ic (-1) (s_goto (s_ldA 0 (s_getRc 10 42 58 0 (s_ldI 1 (s_iald 58 24 (s_ldA 0 (s_getRc 10 2 43 0 (s_ic 53 (s_iald 43 5665 (s_call (FW_m_takesLine c_m_takesLine) 5 (s_vret retV))))))))))))
  (s_ldA 0 (s_getRc 10 42 58 0 (s_ldI 1 (s_ic 1 (s_bin (fun x y => x - y) (s_iald 58 24 (s_ldA 0 (s_getRc 10 42 58 0 (s_ldI 1 (s_iald 58 24 (s_ldA 0 (s_getRc 10 2 43 0 (s_ic 53 (s_iald 43 5665 (s_call (FW_m_takesLine c_m_takesLine) 5 (s_vret retV))))))))))))))))))))
set_option maxRecDepth 20000 in
theorem e_m_takesSet (c_m_takesLine : Sg → Int32 → Int32 → Int32 → Int32 → Option Sg) (s : Sg) (l1 : Int32) : m_takesSet_G c_m_takesLine s l1 = t_m_takesSet c_m_takesLine [some (.inr (.inr (some (10, 0)))), some (.inl l1)] [] s := rfl
noncomputable def m_line_G (c_m_laysSetting : Sg → Option Sg) (c_m_lies : Sg → Int32 → Int32 → Int32 → Option (Sg × Int32)) (c_m_takesSet : Sg → Int32 → Option Sg) (c_m_costsNow : Sg → Option (Sg × Int32)) (c_m_paysNow : Sg → Option (Sg × Int32)) (c_m_isBarred : Sg → Option (Sg × Int32)) (c_m_fitsNow : Sg → Option (Sg × Int32)) (s : Sg) (l1 : Int32) (l2 : Int32) : Option (Sg × Int32) :=
  (c_m_laysSetting s).bind fun s1 => (
  (c_m_lies s1 l1 0 ((rI s1 10 0 43) - 1)).bind fun q2 => (
  gif ((q2.2 : Int32) = 0) (
    some (q2.1, (-1)))
  (
    (c_m_takesSet q2.1 l1).bind fun s3 => (
    gif ((l2 : Int32) = 0) (
      gd (inb l1 24) (
      some (s3, (rI s3 58 0 (ix l1)))))
    (
    gif ((l2 : Int32) = 1) (
      some (s3, (rI s3 10 0 38)))
    (
    gif ((l2 : Int32) = 2) (
      some (s3, (rI s3 10 0 37)))
    (
    gif ((l2 : Int32) = 3) (
      (c_m_costsNow s3).bind fun q4 => (
      some (q4.1, q4.2)))
    (
    gif ((l2 : Int32) = 4) (
      (c_m_paysNow s3).bind fun q5 => (
      some (q5.1, q5.2)))
    (
    gif ((l2 : Int32) = 5) (
      (c_m_isBarred s3).bind fun q6 => (
      gif ((q6.2 : Int32) = 0) (
        some (q6.1, 0))
      (
        some (q6.1, 1))))
    (
    gif ((l2 : Int32) = 6) (
      (c_m_fitsNow s3).bind fun q7 => (
      gif ((q7.2 : Int32) = 0) (
        some (q7.1, 0))
      (
        some (q7.1, 1))))
    (
      some (s3, (-1)))))))))))))
noncomputable def m_line : Sg → Int32 → Int32 → Option (Sg × Int32) := m_line_G m_laysSetting m_lies m_takesSet m_costsNow m_paysNow m_isBarred m_fitsNow
noncomputable def t_m_line (c_m_laysSetting : Sg → Option Sg) (c_m_lies : Sg → Int32 → Int32 → Int32 → Option (Sg × Int32)) (c_m_takesSet : Sg → Int32 → Option Sg) (c_m_costsNow : Sg → Option (Sg × Int32)) (c_m_paysNow : Sg → Option (Sg × Int32)) (c_m_isBarred : Sg → Option (Sg × Int32)) (c_m_fitsNow : Sg → Option (Sg × Int32)) : Bk (Sg × Int32) := (s_ldA 0 (s_call (FW_m_laysSetting c_m_laysSetting) 1 (s_ldI 1 (s_ic 0 (s_ldA 0 (s_getI 10 43 (s_ic 1 (s_bin (fun x y => x - y) (s_call (FW_m_lies c_m_lies) 3 (s_eq0
  (s_ic (-1) (s_iret retI))
  (s_ldA 0 (s_ldI 1 (s_call (FW_m_takesSet c_m_takesSet) 2 (s_ldI 2 (s_sw [(0, (s_ldA 0 (s_getRc 10 42 58 0 (s_ldI 1 (s_iald 58 24 (s_iret retI)))))),
    (1, (s_ldA 0 (s_getI 10 38 (s_iret retI)))),
    (2, (s_ldA 0 (s_getI 10 37 (s_iret retI)))),
    (3, (s_ldA 0 (s_call (FW_m_costsNow c_m_costsNow) 1 (s_iret retI)))),
    (4, (s_ldA 0 (s_call (FW_m_paysNow c_m_paysNow) 1 (s_iret retI)))),
    (5, (s_ldA 0 (s_call (FW_m_isBarred c_m_isBarred) 1 (s_eq0
      (s_ic 0 (s_iret retI))
      (s_ic 1 (s_goto (s_iret retI))))))),
    (6, (s_ldA 0 (s_call (FW_m_fitsNow c_m_fitsNow) 1 (s_eq0
      (s_ic 0 (s_iret retI))
      (s_ic 1 (s_goto (s_iret retI)))))))]
    (s_ic (-1) (s_iret retI)))))))))))))))))
set_option maxRecDepth 20000 in
theorem e_m_line (c_m_laysSetting : Sg → Option Sg) (c_m_lies : Sg → Int32 → Int32 → Int32 → Option (Sg × Int32)) (c_m_takesSet : Sg → Int32 → Option Sg) (c_m_costsNow : Sg → Option (Sg × Int32)) (c_m_paysNow : Sg → Option (Sg × Int32)) (c_m_isBarred : Sg → Option (Sg × Int32)) (c_m_fitsNow : Sg → Option (Sg × Int32)) (s : Sg) (l1 : Int32) (l2 : Int32) : m_line_G c_m_laysSetting c_m_lies c_m_takesSet c_m_costsNow c_m_paysNow c_m_isBarred c_m_fitsNow s l1 l2 = t_m_line c_m_laysSetting c_m_lies c_m_takesSet c_m_costsNow c_m_paysNow c_m_isBarred c_m_fitsNow [some (.inr (.inr (some (10, 0)))), some (.inl l1), some (.inl l2)] [] s := rfl
