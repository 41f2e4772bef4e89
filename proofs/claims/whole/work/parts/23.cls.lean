noncomputable def x6_takeOrderFact_b36_G (c_x6_takeFrom : Sg → Int32 → Int32 → Option (Sg × Int32)) (s : Sg) (y0 : Int32) : Option (Sg × Int32) :=
  let s1 := wI s 6 0 3 ((rI s 6 0 3) + 1)
  (c_x6_takeFrom s1 0 11).bind fun q2 => (
  gif ((q2.2 : Int32) = (-1)) (
    some (q2.1, (-1)))
  (
    some (q2.1, (y0 + q2.2))))
noncomputable def x6_takeOrderFact_b36 : Sg → Int32 → Option (Sg × Int32) := x6_takeOrderFact_b36_G x6_takeFrom
noncomputable def t_x6_takeOrderFact_b36 (c_x6_takeFrom : Sg → Int32 → Int32 → Option (Sg × Int32)) : Bk (Sg × Int32) := (s_stI 1 (s_ldA 0 (s_dup (s_getI 6 3 (s_ic 1 (s_bin (fun x y => x + y) (s_putI 6 3 (s_ldA 0 (s_ic 0 (s_ic 11 (s_call (FW_x6_takeFrom c_x6_takeFrom) 3 (s_stI 2 (s_ldI 2 (s_ic (-1) (s_ceq
  (s_ic (-1) (s_goto (s_iret retI)))
  (s_ldI 1 (s_ldI 2 (s_bin (fun x y => x + y) (s_iret retI)))))))))))))))))))
set_option maxRecDepth 20000 in
theorem e_x6_takeOrderFact_b36 (c_x6_takeFrom : Sg → Int32 → Int32 → Option (Sg × Int32)) (s : Sg) (y0 : Int32) : x6_takeOrderFact_b36_G c_x6_takeFrom s y0 = t_x6_takeOrderFact_b36 c_x6_takeFrom [some (.inr (.inr (some (6, 0)))), none, none] [.inl y0] s := rfl
noncomputable def x6_takeOrderFact_G (K36 : Sg → Int32 → Option (Sg × Int32)) (c_x6_sign : Sg → Option (Sg × Int32)) (c_x6_takeFrom : Sg → Int32 → Int32 → Option (Sg × Int32)) (s : Sg) : Option (Sg × Int32) :=
  (c_x6_sign s).bind fun q1 => (
  gif ((q1.2 : Int32) = 3025) (
    (c_x6_sign q1.1).bind fun q2 => (
    gif ((q2.2 : Int32) = 3025) (
      K36 q2.1 5)
    (
      K36 q2.1 17)))
  (
    (c_x6_sign q1.1).bind fun q3 => (
    gif ((q3.2 : Int32) = 3026) (
      (c_x6_sign q3.1).bind fun q4 => (
      gif ((q4.2 : Int32) = 3025) (
        K36 q4.1 5)
      (
        K36 q4.1 17)))
    (
      (c_x6_takeFrom q3.1 3020 3024).bind fun q5 => (
      gif ((q5.2 : Int32) = (-1)) (
        some (q5.1, (-1)))
      (
        some (q5.1, (q5.2 - 3020))))))))
noncomputable def x6_takeOrderFact : Sg → Option (Sg × Int32) := x6_takeOrderFact_G (x6_takeOrderFact_b36) x6_sign x6_takeFrom
noncomputable def t_x6_takeOrderFact (K36 : Sg → Int32 → Option (Sg × Int32)) (c_x6_sign : Sg → Option (Sg × Int32)) (c_x6_takeFrom : Sg → Int32 → Int32 → Option (Sg × Int32)) : Bk (Sg × Int32) := (s_ldA 0 (s_call (FW_x6_sign c_x6_sign) 1 (s_ic 3025 (s_ceq
  (s_ldA 0 (s_call (FW_x6_sign c_x6_sign) 1 (s_ic 3025 (s_ceq
    (s_ic 5 (s_goto (p_C 0 6 0 <| q_I fun b0 => p_E fun s => K36 s b0)))
    (s_ic 17 (p_C 0 6 0 <| q_I fun b0 => p_E fun s => K36 s b0))))))
  (s_ldA 0 (s_call (FW_x6_sign c_x6_sign) 1 (s_ic 3026 (s_ceq
    (s_ldA 0 (s_call (FW_x6_sign c_x6_sign) 1 (s_ic 3025 (s_ceq
      (s_ic 5 (s_goto (p_C 0 6 0 <| q_I fun b0 => p_E fun s => K36 s b0)))
      (s_ic 17 (p_C 0 6 0 <| q_I fun b0 => p_E fun s => K36 s b0))))))
    (s_ldA 0 (s_ic 3020 (s_ic 3024 (s_call (FW_x6_takeFrom c_x6_takeFrom) 3 (s_stI 1 (s_ldI 1 (s_ic (-1) (s_ceq
      (s_ic (-1) (s_goto (s_iret retI)))
      (s_ldI 1 (s_ic 3020 (s_bin (fun x y => x - y) (s_iret retI))))))))))))))))))))
set_option maxRecDepth 20000 in
theorem e_x6_takeOrderFact (K36 : Sg → Int32 → Option (Sg × Int32)) (c_x6_sign : Sg → Option (Sg × Int32)) (c_x6_takeFrom : Sg → Int32 → Int32 → Option (Sg × Int32)) (s : Sg) : x6_takeOrderFact_G K36 c_x6_sign c_x6_takeFrom s = t_x6_takeOrderFact K36 c_x6_sign c_x6_takeFrom [some (.inr (.inr (some (6, 0)))), none, none] [] s := rfl
noncomputable def x6_takeLawFact_G (c_x6_takeFrom : Sg → Int32 → Int32 → Option (Sg × Int32)) (s : Sg) : Option (Sg × Int32) :=
  (c_x6_takeFrom s 3013 3020).bind fun q1 => (
  gif (((rI q1.1 8 0 8) : Int32) = 0) (
    gif ((q1.2 : Int32) = 3013) (
      gd (isB 1) (
      let s2 := wI q1.1 8 0 8 1
      gif ((q1.2 : Int32) = (-1)) (
        some (s2, (-1)))
      (
        some (s2, (q1.2 - 3013)))))
    (
      gd (isB 0) (
      let s3 := wI q1.1 8 0 8 0
      gif ((q1.2 : Int32) = (-1)) (
        some (s3, (-1)))
      (
        some (s3, (q1.2 - 3013))))))
  (
    gd (isB 1) (
    let s4 := wI q1.1 8 0 8 1
    gif ((q1.2 : Int32) = (-1)) (
      some (s4, (-1)))
    (
      some (s4, (q1.2 - 3013))))))
noncomputable def x6_takeLawFact : Sg → Option (Sg × Int32) := x6_takeLawFact_G x6_takeFrom
noncomputable def t_x6_takeLawFact (c_x6_takeFrom : Sg → Int32 → Int32 → Option (Sg × Int32)) : Bk (Sg × Int32) := (s_ldA 0 (s_ic 3013 (s_ic 3020 (s_call (FW_x6_takeFrom c_x6_takeFrom) 3 (s_stI 1 (s_ldA 0 (s_getRc 6 0 8 0 (s_ldA 0 (s_getRc 6 0 8 0 (s_getI 8 8 (s_eq0
  (s_ldI 1 (s_ic 3013 (s_ceq
    (s_ic 1 (s_goto (s_putZ 8 8 (s_ldI 1 (s_ic (-1) (s_ceq
      (s_ic (-1) (s_goto (s_iret retI)))
      (s_ldI 1 (s_ic 3013 (s_bin (fun x y => x - y) (s_iret retI))))))))))
    (s_ic 0 (s_putZ 8 8 (s_ldI 1 (s_ic (-1) (s_ceq
      (s_ic (-1) (s_goto (s_iret retI)))
      (s_ldI 1 (s_ic 3013 (s_bin (fun x y => x - y) (s_iret retI))))))))))))
  (s_ic 1 (s_goto (s_putZ 8 8 (s_ldI 1 (s_ic (-1) (s_ceq
    (s_ic (-1) (s_goto (s_iret retI)))
    (s_ldI 1 (s_ic 3013 (s_bin (fun x y => x - y) (s_iret retI)))))))))))))))))))))
set_option maxRecDepth 20000 in
theorem e_x6_takeLawFact (c_x6_takeFrom : Sg → Int32 → Int32 → Option (Sg × Int32)) (s : Sg) : x6_takeLawFact_G c_x6_takeFrom s = t_x6_takeLawFact c_x6_takeFrom [some (.inr (.inr (some (6, 0)))), none] [] s := rfl
noncomputable def x6_readPart_G (c_x6_sign : Sg → Option (Sg × Int32)) (c_x6_readBracketed : Sg → Int32 → Option (Sg × Int32)) (c_x6_failHere : Sg → Option (Sg × Int32)) (c_x8_emit : Sg → Nat → Int32 → Int32 → Option Sg) (c_x6_takeOrderFact : Sg → Option (Sg × Int32)) (c_x6_takeLawFact : Sg → Option (Sg × Int32)) (s : Sg) (l1 : Int32) : Option (Sg × Int32) :=
  (c_x6_sign s).bind fun q1 => (
  gif ((q1.2 : Int32) = 2091) (
    (c_x6_readBracketed q1.1 l1).bind fun q2 => (
    gd (isB q2.2) (some (q2.1, q2.2))))
  (
    gif (((rI q1.1 6 0 4) : Int32) < 50) (
      let s3 := wI q1.1 6 0 4 ((rI q1.1 6 0 4) + 1)
      (c_x6_sign s3).bind fun q4 => (
      gif ((1000 : Int32) < q4.2) (
        gif (((rI q4.1 6 0 5) : Int32) = 0) (
          (c_x6_takeLawFact q4.1).bind fun q5 => (
          (c_x8_emit q5.1 0 2 q5.2).bind fun s6 => (
          gif ((q5.2 : Int32) = (-1)) (
            gd (isB 0) (some (s6, 0)))
          (
            gd (isB 1) (some (s6, 1))))))
        (
          (c_x6_takeOrderFact q4.1).bind fun q7 => (
          (c_x8_emit q7.1 0 2 q7.2).bind fun s8 => (
          gif ((q7.2 : Int32) = (-1)) (
            gd (isB 0) (some (s8, 0)))
          (
            gd (isB 1) (some (s8, 1)))))))
      (
        (c_x6_sign q4.1).bind fun q9 => (
        (c_x8_emit q9.1 0 1 q9.2).bind fun s10 => (
        let s11 := wI s10 6 0 3 ((rI s10 6 0 3) + 1)
        gd (isB 1) (some (s11, 1)))))))
    (
      (c_x6_failHere q1.1).bind fun q12 => (
      gd (isB q12.2) (some (q12.1, q12.2))))))
noncomputable def x6_readPart (rb : Sg → Int32 → Option (Sg × Int32)) : Sg → Int32 → Option (Sg × Int32) := x6_readPart_G x6_sign rb x6_failHere x8_emit x6_takeOrderFact x6_takeLawFact
noncomputable def t_x6_readPart (c_x6_sign : Sg → Option (Sg × Int32)) (c_x6_readBracketed : Sg → Int32 → Option (Sg × Int32)) (c_x6_failHere : Sg → Option (Sg × Int32)) (c_x8_emit : Sg → Nat → Int32 → Int32 → Option Sg) (c_x6_takeOrderFact : Sg → Option (Sg × Int32)) (c_x6_takeLawFact : Sg → Option (Sg × Int32)) : Bk (Sg × Int32) := (s_ldA 0 (s_call (FW_x6_sign c_x6_sign) 1 (s_ic 2091 (s_ceq
  (s_ldA 0 (s_ldI 1 (s_call (FW_x6_readBracketed c_x6_readBracketed) 2 (s_zret retI))))
  (s_ldA 0 (s_getI 6 4 (s_ic 50 (s_clt
    (s_ldA 0 (s_dup (s_getI 6 4 (s_ic 1 (s_bin (fun x y => x + y) (s_putI 6 4 (s_ldA 0 (s_call (FW_x6_sign c_x6_sign) 1 (s_ic 1000 (s_cgt
      (s_ldA 0 (s_getI 6 5 (s_eq0
        (s_ldA 0 (s_call (FW_x6_takeLawFact c_x6_takeLawFact) 1 (s_stI 2 (s_ldA 0 (s_getRc 6 0 8 0 (s_ic 2 (s_ldI 2 (s_call (FW_x8_emit c_x8_emit) 3 (s_ldI 2 (s_ic (-1) (s_ceq
          (s_ic 0 (s_zret retI))
          (s_ic 1 (s_goto (s_zret retI))))))))))))))
        (s_ldA 0 (s_call (FW_x6_takeOrderFact c_x6_takeOrderFact) 1 (s_goto (s_stI 2 (s_ldA 0 (s_getRc 6 0 8 0 (s_ic 2 (s_ldI 2 (s_call (FW_x8_emit c_x8_emit) 3 (s_ldI 2 (s_ic (-1) (s_ceq
          (s_ic 0 (s_zret retI))
          (s_ic 1 (s_goto (s_zret retI))))))))))))))))))
      (s_ldA 0 (s_getRc 6 0 8 0 (s_ic 1 (s_ldA 0 (s_call (FW_x6_sign c_x6_sign) 1 (s_call (FW_x8_emit c_x8_emit) 3 (s_ldA 0 (s_dup (s_getI 6 3 (s_ic 1 (s_bin (fun x y => x + y) (s_putI 6 3 (s_ic 1 (s_zret retI))))))))))))))))))))))))
    (s_ldA 0 (s_call (FW_x6_failHere c_x6_failHere) 1 (s_zret retI)))))))))))
set_option maxRecDepth 20000 in
theorem e_x6_readPart (c_x6_sign : Sg → Option (Sg × Int32)) (c_x6_readBracketed : Sg → Int32 → Option (Sg × Int32)) (c_x6_failHere : Sg → Option (Sg × Int32)) (c_x8_emit : Sg → Nat → Int32 → Int32 → Option Sg) (c_x6_takeOrderFact : Sg → Option (Sg × Int32)) (c_x6_takeLawFact : Sg → Option (Sg × Int32)) (s : Sg) (l1 : Int32) : x6_readPart_G c_x6_sign c_x6_readBracketed c_x6_failHere c_x8_emit c_x6_takeOrderFact c_x6_takeLawFact s l1 = t_x6_readPart c_x6_sign c_x6_readBracketed c_x6_failHere c_x8_emit c_x6_takeOrderFact c_x6_takeLawFact [some (.inr (.inr (some (6, 0)))), some (.inl l1), none] [] s := rfl
noncomputable def x6_instructionOf_G (s : Sg) (l0 : Int32) : Option (Sg × Int32) :=
  gif ((l0 : Int32) = 2037) (
    some (s, 11))
  (
  gif ((l0 : Int32) = 2038) (
    some (s, (-1)))
  (
  gif ((l0 : Int32) = 2039) (
    some (s, (-1)))
  (
  gif ((l0 : Int32) = 2040) (
    some (s, (-1)))
  (
  gif ((l0 : Int32) = 2041) (
    some (s, (-1)))
  (
  gif ((l0 : Int32) = 2042) (
    some (s, 9))
  (
  gif ((l0 : Int32) = 2043) (
    some (s, 7))
  (
  gif ((l0 : Int32) = 2044) (
    some (s, (-1)))
  (
  gif ((l0 : Int32) = 2045) (
    some (s, 8))
  (
  gif ((l0 : Int32) = 2046) (
    some (s, (-1)))
  (
  gif ((l0 : Int32) = 2047) (
    some (s, 10))
  (
  gif ((l0 : Int32) = 2048) (
    some (s, (-1)))
  (
  gif ((l0 : Int32) = 2049) (
    some (s, (-1)))
  (
  gif ((l0 : Int32) = 2050) (
    some (s, (-1)))
  (
  gif ((l0 : Int32) = 2051) (
    some (s, (-1)))
  (
  gif ((l0 : Int32) = 2052) (
    some (s, (-1)))
  (
  gif ((l0 : Int32) = 2053) (
    some (s, (-1)))
  (
  gif ((l0 : Int32) = 2054) (
    some (s, (-1)))
  (
  gif ((l0 : Int32) = 2055) (
    some (s, (-1)))
  (
  gif ((l0 : Int32) = 2056) (
    some (s, (-1)))
  (
  gif ((l0 : Int32) = 2057) (
    some (s, (-1)))
  (
  gif ((l0 : Int32) = 2058) (
    some (s, (-1)))
  (
  gif ((l0 : Int32) = 2059) (
    some (s, (-1)))
  (
  gif ((l0 : Int32) = 2060) (
    some (s, 12))
  (
  gif ((l0 : Int32) = 2061) (
    some (s, 14))
  (
  gif ((l0 : Int32) = 2062) (
    some (s, 13))
  (
    some (s, (-1))))))))))))))))))))))))))))
noncomputable def x6_instructionOf : Sg → Int32 → Option (Sg × Int32) := x6_instructionOf_G
noncomputable def t_x6_instructionOf : Bk (Sg × Int32) := (s_ldI 0 (s_sw [(2037, (s_ic 11 (s_iret retI))),
  (2038, (s_ic (-1) (s_iret retI))),
  (2039, (s_ic (-1) (s_iret retI))),
  (2040, (s_ic (-1) (s_iret retI))),
  (2041, (s_ic (-1) (s_iret retI))),
  (2042, (s_ic 9 (s_iret retI))),
  (2043, (s_ic 7 (s_iret retI))),
  (2044, (s_ic (-1) (s_iret retI))),
  (2045, (s_ic 8 (s_iret retI))),
  (2046, (s_ic (-1) (s_iret retI))),
  (2047, (s_ic 10 (s_iret retI))),
  (2048, (s_ic (-1) (s_iret retI))),
  (2049, (s_ic (-1) (s_iret retI))),
  (2050, (s_ic (-1) (s_iret retI))),
  (2051, (s_ic (-1) (s_iret retI))),
  (2052, (s_ic (-1) (s_iret retI))),
  (2053, (s_ic (-1) (s_iret retI))),
  (2054, (s_ic (-1) (s_iret retI))),
  (2055, (s_ic (-1) (s_iret retI))),
  (2056, (s_ic (-1) (s_iret retI))),
  (2057, (s_ic (-1) (s_iret retI))),
  (2058, (s_ic (-1) (s_iret retI))),
  (2059, (s_ic (-1) (s_iret retI))),
  (2060, (s_ic 12 (s_iret retI))),
  (2061, (s_ic 14 (s_iret retI))),
  (2062, (s_ic 13 (s_iret retI)))]
  (s_ic (-1) (s_iret retI))))
set_option maxRecDepth 20000 in
theorem e_x6_instructionOf (s : Sg) (l0 : Int32) : x6_instructionOf_G s l0 = t_x6_instructionOf [some (.inl l0)] [] s := rfl
noncomputable def x6_readTerm_b8_G (K8 : Sg → Int32 → Int32 → Int32 → Option (Sg × Int32)) (c_x6_sign : Sg → Option (Sg × Int32)) (c_x6_instructionOf : Sg → Int32 → Option (Sg × Int32)) (c_x6_readPart : Sg → Int32 → Option (Sg × Int32)) (c_x8_emit : Sg → Nat → Int32 → Int32 → Option Sg) (s : Sg) (l1 : Int32) (l2 : Int32) (l3 : Int32) : Option (Sg × Int32) :=
  gif ((l3 : Int32) < 400) (
    gif ((l2 : Int32) = 0) (
      gd (isB l2) (some (s, l2)))
    (
      (c_x6_sign s).bind fun q1 => (
      (c_x6_instructionOf q1.1 q1.2).bind fun q2 => (
      gif ((q2.2 : Int32) < 9) (
        gd (isB 1) (some (q2.1, 1)))
      (
        gif ((11 : Int32) < q2.2) (
          gd (isB 1) (some (q2.1, 1)))
        (
          let s3 := wI q2.1 6 0 3 ((rI q2.1 6 0 3) + 1)
          (c_x6_readPart s3 l1).bind fun q4 => (
          (c_x8_emit q4.1 0 q2.2 0).bind fun s5 => (
          K8 s5 l1 q4.2 (l3 + 1)))))))))
  (
    gd (isB l2) (some (s, l2)))
noncomputable def x6_readTerm_b8 (rb : Sg → Int32 → Option (Sg × Int32)) : Nat → Sg → Int32 → Int32 → Int32 → Option (Sg × Int32)
  | 0 => fun _ _ _ _ => none
  | n + 1 => x6_readTerm_b8_G (x6_readTerm_b8 rb n) x6_sign x6_instructionOf (x6_readPart rb) x8_emit
noncomputable def t_x6_readTerm_b8 (K8 : Sg → Int32 → Int32 → Int32 → Option (Sg × Int32)) (c_x6_sign : Sg → Option (Sg × Int32)) (c_x6_instructionOf : Sg → Int32 → Option (Sg × Int32)) (c_x6_readPart : Sg → Int32 → Option (Sg × Int32)) (c_x8_emit : Sg → Nat → Int32 → Int32 → Option Sg) : Bk (Sg × Int32) := (s_ldI 3 (s_ic 400 (s_clt
  (s_ldI 2 (s_eq0
    (s_ldI 2 (s_zret retI))
    (s_ldA 0 (s_call (FW_x6_sign c_x6_sign) 1 (s_call (FW_x6_instructionOf c_x6_instructionOf) 1 (s_stI 4 (s_ldI 4 (s_ic 9 (s_clt
      (s_ic 1 (s_zret retI))
      (s_ldI 4 (s_ic 11 (s_cgt
        (s_ic 1 (s_zret retI))
        (s_ldA 0 (s_dup (s_getI 6 3 (s_ic 1 (s_bin (fun x y => x + y) (s_putI 6 3 (s_ldA 0 (s_ldI 1 (s_call (FW_x6_readPart c_x6_readPart) 2 (s_stI 2 (s_ldA 0 (s_getRc 6 0 8 0 (s_ldI 4 (s_ic 0 (s_call (FW_x8_emit c_x8_emit) 3 (s_inc 3 1 (s_goto (p_C 0 6 0 <| p_I 1 fun a1 => p_I 2 fun a2 => p_I 3 fun a3 => p_E fun s => K8 s a1 a2 a3))))))))))))))))))))))))))))))
  (s_ldI 2 (s_zret retI)))))
set_option maxRecDepth 20000 in
theorem e_x6_readTerm_b8 (K8 : Sg → Int32 → Int32 → Int32 → Option (Sg × Int32)) (c_x6_sign : Sg → Option (Sg × Int32)) (c_x6_instructionOf : Sg → Int32 → Option (Sg × Int32)) (c_x6_readPart : Sg → Int32 → Option (Sg × Int32)) (c_x8_emit : Sg → Nat → Int32 → Int32 → Option Sg) (s : Sg) (l1 : Int32) (l2 : Int32) (l3 : Int32) : x6_readTerm_b8_G K8 c_x6_sign c_x6_instructionOf c_x6_readPart c_x8_emit s l1 l2 l3 = t_x6_readTerm_b8 K8 c_x6_sign c_x6_instructionOf c_x6_readPart c_x8_emit [some (.inr (.inr (some (6, 0)))), some (.inl l1), some (.inl l2), some (.inl l3), none] [] s := rfl
noncomputable def x6_readTerm_G (K8 : Sg → Int32 → Int32 → Int32 → Option (Sg × Int32)) (c_x6_readPart : Sg → Int32 → Option (Sg × Int32)) (s : Sg) (l1 : Int32) : Option (Sg × Int32) :=
  (c_x6_readPart s l1).bind fun q1 => (
  K8 q1.1 l1 q1.2 0)
noncomputable def x6_readTerm (rb : Sg → Int32 → Option (Sg × Int32)) : Sg → Int32 → Option (Sg × Int32) := x6_readTerm_G (x6_readTerm_b8 rb FU) (x6_readPart rb)
noncomputable def t_x6_readTerm (K8 : Sg → Int32 → Int32 → Int32 → Option (Sg × Int32)) (c_x6_readPart : Sg → Int32 → Option (Sg × Int32)) : Bk (Sg × Int32) := (s_ldA 0 (s_ldI 1 (s_call (FW_x6_readPart c_x6_readPart) 2 (s_stI 2 (s_ic 0 (s_stI 3 (p_C 0 6 0 <| p_I 1 fun a1 => p_I 2 fun a2 => p_I 3 fun a3 => p_E fun s => K8 s a1 a2 a3)))))))
set_option maxRecDepth 20000 in
theorem e_x6_readTerm (K8 : Sg → Int32 → Int32 → Int32 → Option (Sg × Int32)) (c_x6_readPart : Sg → Int32 → Option (Sg × Int32)) (s : Sg) (l1 : Int32) : x6_readTerm_G K8 c_x6_readPart s l1 = t_x6_readTerm K8 c_x6_readPart [some (.inr (.inr (some (6, 0)))), some (.inl l1), none, none, none] [] s := rfl
noncomputable def x6_readSum_b44_G (K8 : Sg → Int32 → Int32 → Int32 → Option (Sg × Int32)) (c_x6_readTerm : Sg → Int32 → Option (Sg × Int32)) (c_x8_emit : Sg → Nat → Int32 → Int32 → Option Sg) (s : Sg) (l1 : Int32) (l3 : Int32) (l4 : Int32) : Option (Sg × Int32) :=
  let s1 := wI s 6 0 3 ((rI s 6 0 3) + 1)
  (c_x6_readTerm s1 l1).bind fun q2 => (
  (c_x8_emit q2.1 0 l4 0).bind fun s3 => (
  K8 s3 l1 q2.2 (l3 + 1)))
noncomputable def x6_readSum_b44 (rb : Sg → Int32 → Option (Sg × Int32)) (K8 : Sg → Int32 → Int32 → Int32 → Option (Sg × Int32)) : Sg → Int32 → Int32 → Int32 → Option (Sg × Int32) := x6_readSum_b44_G K8 (x6_readTerm rb) x8_emit
noncomputable def t_x6_readSum_b44 (K8 : Sg → Int32 → Int32 → Int32 → Option (Sg × Int32)) (c_x6_readTerm : Sg → Int32 → Option (Sg × Int32)) (c_x8_emit : Sg → Nat → Int32 → Int32 → Option Sg) : Bk (Sg × Int32) := (s_ldA 0 (s_dup (s_getI 6 3 (s_ic 1 (s_bin (fun x y => x + y) (s_putI 6 3 (s_ldA 0 (s_ldI 1 (s_call (FW_x6_readTerm c_x6_readTerm) 2 (s_stI 2 (s_ldA 0 (s_getRc 6 0 8 0 (s_ldI 4 (s_ic 0 (s_call (FW_x8_emit c_x8_emit) 3 (s_inc 3 1 (s_goto (p_C 0 6 0 <| p_I 1 fun a1 => p_I 2 fun a2 => p_I 3 fun a3 => p_E fun s => K8 s a1 a2 a3))))))))))))))))))
set_option maxRecDepth 20000 in
theorem e_x6_readSum_b44 (K8 : Sg → Int32 → Int32 → Int32 → Option (Sg × Int32)) (c_x6_readTerm : Sg → Int32 → Option (Sg × Int32)) (c_x8_emit : Sg → Nat → Int32 → Int32 → Option Sg) (s : Sg) (l1 : Int32) (l3 : Int32) (l4 : Int32) : x6_readSum_b44_G K8 c_x6_readTerm c_x8_emit s l1 l3 l4 = t_x6_readSum_b44 K8 c_x6_readTerm c_x8_emit [some (.inr (.inr (some (6, 0)))), some (.inl l1), none, some (.inl l3), some (.inl l4)] [] s := rfl
noncomputable def x6_readSum_b8_G (K44 : Sg → Int32 → Int32 → Int32 → Option (Sg × Int32)) (c_x6_sign : Sg → Option (Sg × Int32)) (c_x6_instructionOf : Sg → Int32 → Option (Sg × Int32)) (s : Sg) (l1 : Int32) (l2 : Int32) (l3 : Int32) : Option (Sg × Int32) :=
  gif ((l3 : Int32) < 400) (
    gif ((l2 : Int32) = 0) (
      gd (isB l2) (some (s, l2)))
    (
      (c_x6_sign s).bind fun q1 => (
      (c_x6_instructionOf q1.1 q1.2).bind fun q2 => (
      gif ((q2.2 : Int32) = 7) (
        K44 q2.1 l1 l3 q2.2)
      (
        gif ((q2.2 : Int32) = 8) (
          K44 q2.1 l1 l3 q2.2)
        (
          gd (isB 1) (some (q2.1, 1))))))))
  (
    gd (isB l2) (some (s, l2)))
noncomputable def x6_readSum_b8 (rb : Sg → Int32 → Option (Sg × Int32)) : Nat → Sg → Int32 → Int32 → Int32 → Option (Sg × Int32)
  | 0 => fun _ _ _ _ => none
  | n + 1 => x6_readSum_b8_G (x6_readSum_b44 rb (x6_readSum_b8 rb n)) x6_sign x6_instructionOf
noncomputable def t_x6_readSum_b8 (K44 : Sg → Int32 → Int32 → Int32 → Option (Sg × Int32)) (c_x6_sign : Sg → Option (Sg × Int32)) (c_x6_instructionOf : Sg → Int32 → Option (Sg × Int32)) : Bk (Sg × Int32) := (s_ldI 3 (s_ic 400 (s_clt
  (s_ldI 2 (s_eq0
    (s_ldI 2 (s_zret retI))
    (s_ldA 0 (s_call (FW_x6_sign c_x6_sign) 1 (s_call (FW_x6_instructionOf c_x6_instructionOf) 1 (s_stI 4 (s_ldI 4 (s_ic 7 (s_ceq
      (p_C 0 6 0 <| p_I 1 fun a1 => p_I 3 fun a3 => p_I 4 fun a4 => p_E fun s => K44 s a1 a3 a4)
      (s_ldI 4 (s_ic 8 (s_ceq
        (p_C 0 6 0 <| p_I 1 fun a1 => p_I 3 fun a3 => p_I 4 fun a4 => p_E fun s => K44 s a1 a3 a4)
        (s_ic 1 (s_zret retI))))))))))))))
  (s_ldI 2 (s_zret retI)))))
set_option maxRecDepth 20000 in
theorem e_x6_readSum_b8 (K44 : Sg → Int32 → Int32 → Int32 → Option (Sg × Int32)) (c_x6_sign : Sg → Option (Sg × Int32)) (c_x6_instructionOf : Sg → Int32 → Option (Sg × Int32)) (s : Sg) (l1 : Int32) (l2 : Int32) (l3 : Int32) : x6_readSum_b8_G K44 c_x6_sign c_x6_instructionOf s l1 l2 l3 = t_x6_readSum_b8 K44 c_x6_sign c_x6_instructionOf [some (.inr (.inr (some (6, 0)))), some (.inl l1), some (.inl l2), some (.inl l3), none] [] s := rfl
noncomputable def x6_readSum_G (K8 : Sg → Int32 → Int32 → Int32 → Option (Sg × Int32)) (c_x6_readTerm : Sg → Int32 → Option (Sg × Int32)) (s : Sg) (l1 : Int32) : Option (Sg × Int32) :=
  (c_x6_readTerm s l1).bind fun q1 => (
  K8 q1.1 l1 q1.2 0)
noncomputable def x6_readSum (rb : Sg → Int32 → Option (Sg × Int32)) : Sg → Int32 → Option (Sg × Int32) := x6_readSum_G (x6_readSum_b8 rb FU) (x6_readTerm rb)
noncomputable def t_x6_readSum (K8 : Sg → Int32 → Int32 → Int32 → Option (Sg × Int32)) (c_x6_readTerm : Sg → Int32 → Option (Sg × Int32)) : Bk (Sg × Int32) := (s_ldA 0 (s_ldI 1 (s_call (FW_x6_readTerm c_x6_readTerm) 2 (s_stI 2 (s_ic 0 (s_stI 3 (p_C 0 6 0 <| p_I 1 fun a1 => p_I 2 fun a2 => p_I 3 fun a3 => p_E fun s => K8 s a1 a2 a3)))))))
set_option maxRecDepth 20000 in
theorem e_x6_readSum (K8 : Sg → Int32 → Int32 → Int32 → Option (Sg × Int32)) (c_x6_readTerm : Sg → Int32 → Option (Sg × Int32)) (s : Sg) (l1 : Int32) : x6_readSum_G K8 c_x6_readTerm s l1 = t_x6_readSum K8 c_x6_readTerm [some (.inr (.inr (some (6, 0)))), some (.inl l1), none, none, none] [] s := rfl
noncomputable def x6_take_G (c_x6_sign : Sg → Option (Sg × Int32)) (s : Sg) (l1 : Int32) : Option (Sg × Int32) :=
  (c_x6_sign s).bind fun q1 => (
  gif ((q1.2 : Int32) = l1) (
    let s2 := wI q1.1 6 0 3 ((rI q1.1 6 0 3) + 1)
    gd (isB 1) (some (s2, 1)))
  (
    gd (isB 0) (some (q1.1, 0))))
noncomputable def x6_take : Sg → Int32 → Option (Sg × Int32) := x6_take_G x6_sign
noncomputable def t_x6_take (c_x6_sign : Sg → Option (Sg × Int32)) : Bk (Sg × Int32) := (s_ldA 0 (s_call (FW_x6_sign c_x6_sign) 1 (s_ldI 1 (s_ceq
  (s_ldA 0 (s_dup (s_getI 6 3 (s_ic 1 (s_bin (fun x y => x + y) (s_putI 6 3 (s_ic 1 (s_zret retI))))))))
  (s_ic 0 (s_zret retI))))))
set_option maxRecDepth 20000 in
theorem e_x6_take (c_x6_sign : Sg → Option (Sg × Int32)) (s : Sg) (l1 : Int32) : x6_take_G c_x6_sign s l1 = t_x6_take c_x6_sign [some (.inr (.inr (some (6, 0)))), some (.inl l1)] [] s := rfl
noncomputable def x6_readComparison_G (c_x6_readSum : Sg → Int32 → Option (Sg × Int32)) (c_x6_sign : Sg → Option (Sg × Int32)) (c_x6_instructionOf : Sg → Int32 → Option (Sg × Int32)) (c_x6_failHere : Sg → Option (Sg × Int32)) (c_x8_emit : Sg → Nat → Int32 → Int32 → Option Sg) (s : Sg) (l1 : Int32) : Option (Sg × Int32) :=
  (c_x6_readSum s l1).bind fun q1 => (
  gif ((q1.2 : Int32) = 0) (
    gd (isB 0) (some (q1.1, 0)))
  (
    (c_x6_sign q1.1).bind fun q2 => (
    (c_x6_instructionOf q2.1 q2.2).bind fun q3 => (
    gif ((q3.2 : Int32) < 12) (
      (c_x6_failHere q3.1).bind fun q4 => (
      gd (isB q4.2) (some (q4.1, q4.2))))
    (
      let s5 := wI q3.1 6 0 3 ((rI q3.1 6 0 3) + 1)
      (c_x6_readSum s5 l1).bind fun q6 => (
      (c_x8_emit q6.1 0 q3.2 0).bind fun s7 => (
      gd (isB q6.2) (some (s7, q6.2)))))))))
noncomputable def x6_readComparison (rb : Sg → Int32 → Option (Sg × Int32)) : Sg → Int32 → Option (Sg × Int32) := x6_readComparison_G (x6_readSum rb) x6_sign x6_instructionOf x6_failHere x8_emit
noncomputable def t_x6_readComparison (c_x6_readSum : Sg → Int32 → Option (Sg × Int32)) (c_x6_sign : Sg → Option (Sg × Int32)) (c_x6_instructionOf : Sg → Int32 → Option (Sg × Int32)) (c_x6_failHere : Sg → Option (Sg × Int32)) (c_x8_emit : Sg → Nat → Int32 → Int32 → Option Sg) : Bk (Sg × Int32) := (s_ldA 0 (s_ldI 1 (s_call (FW_x6_readSum c_x6_readSum) 2 (s_eq0
  (s_ic 0 (s_zret retI))
  (s_ldA 0 (s_call (FW_x6_sign c_x6_sign) 1 (s_call (FW_x6_instructionOf c_x6_instructionOf) 1 (s_stI 2 (s_ldI 2 (s_ic 12 (s_clt
    (s_ldA 0 (s_call (FW_x6_failHere c_x6_failHere) 1 (s_zret retI)))
    (s_ldA 0 (s_dup (s_getI 6 3 (s_ic 1 (s_bin (fun x y => x + y) (s_putI 6 3 (s_ldA 0 (s_ldI 1 (s_call (FW_x6_readSum c_x6_readSum) 2 (s_stI 3 (s_ldA 0 (s_getRc 6 0 8 0 (s_ldI 2 (s_ic 0 (s_call (FW_x8_emit c_x8_emit) 3 (s_ldI 3 (s_zret retI))))))))))))))))))))))))))))
set_option maxRecDepth 20000 in
theorem e_x6_readComparison (c_x6_readSum : Sg → Int32 → Option (Sg × Int32)) (c_x6_sign : Sg → Option (Sg × Int32)) (c_x6_instructionOf : Sg → Int32 → Option (Sg × Int32)) (c_x6_failHere : Sg → Option (Sg × Int32)) (c_x8_emit : Sg → Nat → Int32 → Int32 → Option Sg) (s : Sg) (l1 : Int32) : x6_readComparison_G c_x6_readSum c_x6_sign c_x6_instructionOf c_x6_failHere c_x8_emit s l1 = t_x6_readComparison c_x6_readSum c_x6_sign c_x6_instructionOf c_x6_failHere c_x8_emit [some (.inr (.inr (some (6, 0)))), some (.inl l1), none, none] [] s := rfl
noncomputable def x6_readPlain_b37_G (c_x6_sign : Sg → Option (Sg × Int32)) (c_x6_readBracketed : Sg → Int32 → Option (Sg × Int32)) (c_x6_readComparison : Sg → Int32 → Option (Sg × Int32)) (c_x8_emit : Sg → Nat → Int32 → Int32 → Option Sg) (s : Sg) (l1 : Int32) (l2 : Int32) : Option (Sg × Int32) :=
  (c_x6_sign s).bind fun q1 => (
  gif ((q1.2 : Int32) = 2040) (
    (c_x6_readBracketed q1.1 l1).bind fun q2 => (
    gif ((l2 : Int32) = 0) (
      gd (isB q2.2) (some (q2.1, q2.2)))
    (
      (c_x8_emit q2.1 0 3 0).bind fun s3 => (
      gd (isB q2.2) (some (s3, q2.2))))))
  (
    (c_x6_readComparison q1.1 l1).bind fun q4 => (
    gif ((l2 : Int32) = 0) (
      gd (isB q4.2) (some (q4.1, q4.2)))
    (
      (c_x8_emit q4.1 0 3 0).bind fun s5 => (
      gd (isB q4.2) (some (s5, q4.2)))))))
noncomputable def x6_readPlain_b37 (rb : Sg → Int32 → Option (Sg × Int32)) : Sg → Int32 → Int32 → Option (Sg × Int32) := x6_readPlain_b37_G x6_sign rb (x6_readComparison rb) x8_emit
noncomputable def t_x6_readPlain_b37 (c_x6_sign : Sg → Option (Sg × Int32)) (c_x6_readBracketed : Sg → Int32 → Option (Sg × Int32)) (c_x6_readComparison : Sg → Int32 → Option (Sg × Int32)) (c_x8_emit : Sg → Nat → Int32 → Int32 → Option Sg) : Bk (Sg × Int32) := (s_ldA 0 (s_call (FW_x6_sign c_x6_sign) 1 (s_ic 2040 (s_ceq
  (s_ldA 0 (s_ldI 1 (s_call (FW_x6_readBracketed c_x6_readBracketed) 2 (s_goto (s_stI 3 (s_ldI 2 (s_eq0
    (s_ldI 3 (s_zret retI))
    (s_ldA 0 (s_getRc 6 0 8 0 (s_ic 3 (s_ic 0 (s_call (FW_x8_emit c_x8_emit) 3 (s_ldI 3 (s_zret retI))))))))))))))
  (s_ldA 0 (s_ldI 1 (s_call (FW_x6_readComparison c_x6_readComparison) 2 (s_stI 3 (s_ldI 2 (s_eq0
    (s_ldI 3 (s_zret retI))
    (s_ldA 0 (s_getRc 6 0 8 0 (s_ic 3 (s_ic 0 (s_call (FW_x8_emit c_x8_emit) 3 (s_ldI 3 (s_zret retI)))))))))))))))))
set_option maxRecDepth 20000 in
theorem e_x6_readPlain_b37 (c_x6_sign : Sg → Option (Sg × Int32)) (c_x6_readBracketed : Sg → Int32 → Option (Sg × Int32)) (c_x6_readComparison : Sg → Int32 → Option (Sg × Int32)) (c_x8_emit : Sg → Nat → Int32 → Int32 → Option Sg) (s : Sg) (l1 : Int32) (l2 : Int32) : x6_readPlain_b37_G c_x6_sign c_x6_readBracketed c_x6_readComparison c_x8_emit s l1 l2 = t_x6_readPlain_b37 c_x6_sign c_x6_readBracketed c_x6_readComparison c_x8_emit [some (.inr (.inr (some (6, 0)))), some (.inl l1), some (.inl l2), none] [] s := rfl
noncomputable def x6_readPlain_b4_G (K4 : Sg → Int32 → Int32 → Int32 → Option (Sg × Int32)) (K37 : Sg → Int32 → Int32 → Option (Sg × Int32)) (c_x6_take : Sg → Int32 → Option (Sg × Int32)) (s : Sg) (l1 : Int32) (l2 : Int32) (l3 : Int32) : Option (Sg × Int32) :=
  gif ((l3 : Int32) < 400) (
    (c_x6_take s 3012).bind fun q1 => (
    gif ((q1.2 : Int32) = 0) (
      K37 q1.1 l1 l2)
    (
      gif ((l2 : Int32) = 0) (
        K4 q1.1 l1 1 (l3 + 1))
      (
        K4 q1.1 l1 0 (l3 + 1)))))
  (
    K37 s l1 l2)
noncomputable def x6_readPlain_b4 (rb : Sg → Int32 → Option (Sg × Int32)) : Nat → Sg → Int32 → Int32 → Int32 → Option (Sg × Int32)
  | 0 => fun _ _ _ _ => none
  | n + 1 => x6_readPlain_b4_G (x6_readPlain_b4 rb n) (x6_readPlain_b37 rb) x6_take
noncomputable def t_x6_readPlain_b4 (K4 : Sg → Int32 → Int32 → Int32 → Option (Sg × Int32)) (K37 : Sg → Int32 → Int32 → Option (Sg × Int32)) (c_x6_take : Sg → Int32 → Option (Sg × Int32)) : Bk (Sg × Int32) := (s_ldI 3 (s_ic 400 (s_clt
  (s_ldA 0 (s_ic 3012 (s_call (FW_x6_take c_x6_take) 2 (s_eq0
    (p_C 0 6 0 <| p_I 1 fun a1 => p_I 2 fun a2 => p_E fun s => K37 s a1 a2)
    (s_ldI 2 (s_eq0
      (s_ic 1 (s_goto (s_stI 2 (s_inc 3 1 (s_goto (p_C 0 6 0 <| p_I 1 fun a1 => p_I 2 fun a2 => p_I 3 fun a3 => p_E fun s => K4 s a1 a2 a3))))))
      (s_ic 0 (s_stI 2 (s_inc 3 1 (s_goto (p_C 0 6 0 <| p_I 1 fun a1 => p_I 2 fun a2 => p_I 3 fun a3 => p_E fun s => K4 s a1 a2 a3)))))))))))
  (p_C 0 6 0 <| p_I 1 fun a1 => p_I 2 fun a2 => p_E fun s => K37 s a1 a2))))
set_option maxRecDepth 20000 in
theorem e_x6_readPlain_b4 (K4 : Sg → Int32 → Int32 → Int32 → Option (Sg × Int32)) (K37 : Sg → Int32 → Int32 → Option (Sg × Int32)) (c_x6_take : Sg → Int32 → Option (Sg × Int32)) (s : Sg) (l1 : Int32) (l2 : Int32) (l3 : Int32) : x6_readPlain_b4_G K4 K37 c_x6_take s l1 l2 l3 = t_x6_readPlain_b4 K4 K37 c_x6_take [some (.inr (.inr (some (6, 0)))), some (.inl l1), some (.inl l2), some (.inl l3)] [] s := rfl
noncomputable def x6_readPlain_G (K4 : Sg → Int32 → Int32 → Int32 → Option (Sg × Int32)) (s : Sg) (l1 : Int32) : Option (Sg × Int32) :=
  K4 s l1 0 0
noncomputable def x6_readPlain (rb : Sg → Int32 → Option (Sg × Int32)) : Sg → Int32 → Option (Sg × Int32) := x6_readPlain_G (x6_readPlain_b4 rb FU)
noncomputable def t_x6_readPlain (K4 : Sg → Int32 → Int32 → Int32 → Option (Sg × Int32)) : Bk (Sg × Int32) := (s_ic 0 (s_stI 2 (s_ic 0 (s_stI 3 (p_C 0 6 0 <| p_I 1 fun a1 => p_I 2 fun a2 => p_I 3 fun a3 => p_E fun s => K4 s a1 a2 a3)))))
set_option maxRecDepth 20000 in
theorem e_x6_readPlain (K4 : Sg → Int32 → Int32 → Int32 → Option (Sg × Int32)) (s : Sg) (l1 : Int32) : x6_readPlain_G K4 s l1 = t_x6_readPlain K4 [some (.inr (.inr (some (6, 0)))), some (.inl l1), none, none] [] s := rfl
noncomputable def x8_aim_G (s : Sg) (g0 : Nat) (l1 : Int32) : Option Sg :=
  gif ((l1 : Int32) < 0) (
    some s)
  (
    gif ((l1 : Int32) < (Int32.ofNat (rN s 36 g0 0))) (
      gd (inb l1 (rN s 36 g0 0)) (
      gd (inb l1 (rN s 36 g0 0)) (
      let s1 := wI s 36 g0 (ix l1) (((rI s 36 g0 (ix l1)) &&& (-4096)) ||| ((rI s 8 g0 7) &&& 4095))
      some s1)))
    (
      some s))
noncomputable def x8_aim : Sg → Nat → Int32 → Option Sg := x8_aim_G
noncomputable def t_x8_aim : Bk Sg := (s_ldI 1 (s_lt0
  (s_vret retV)
  (s_ldI 1 (s_ldA 0 (s_getRv 8 5 36 (s_alenC (s_clt
    (s_ldA 0 (s_getRv 8 5 36 (s_ldI 1 (s_ldA 0 (s_getRv 8 5 36 (s_ldI 1 (s_ialdC (s_ic (-4096) (s_bin (fun x y => x &&& y) (s_ldA 0 (s_getI 8 7 (s_ic 4095 (s_bin (fun x y => x &&& y) (s_bin (fun x y => x ||| y) (s_iastC (s_vret retV))))))))))))))))
    (s_vret retV))))))))
set_option maxRecDepth 20000 in
theorem e_x8_aim (s : Sg) (g0 : Nat) (l1 : Int32) : x8_aim_G s g0 l1 = t_x8_aim [some (.inr (.inr (some (8, g0)))), some (.inl l1)] [] s := rfl
noncomputable def x6_readBoth_b8_G (K8 : Sg → Int32 → Int32 → Int32 → Option (Sg × Int32)) (c_x6_take : Sg → Int32 → Option (Sg × Int32)) (c_x8_emit : Sg → Nat → Int32 → Int32 → Option Sg) (c_x6_readPlain : Sg → Int32 → Option (Sg × Int32)) (c_x8_aim : Sg → Nat → Int32 → Option Sg) (s : Sg) (l1 : Int32) (l2 : Int32) (l3 : Int32) : Option (Sg × Int32) :=
  gif ((l3 : Int32) < 400) (
    gif ((l2 : Int32) = 0) (
      gd (isB l2) (some (s, l2)))
    (
      (c_x6_take s 3011).bind fun q1 => (
      gif ((q1.2 : Int32) = 0) (
        gd (isB l2) (some (q1.1, l2)))
      (
        (c_x8_emit q1.1 0 4 0).bind fun s2 => (
        (c_x6_readPlain s2 l1).bind fun q3 => (
        (c_x8_aim q3.1 0 (rI q1.1 8 0 7)).bind fun s4 => (
        K8 s4 l1 q3.2 (l3 + 1))))))))
  (
    gd (isB l2) (some (s, l2)))
noncomputable def x6_readBoth_b8 (rb : Sg → Int32 → Option (Sg × Int32)) : Nat → Sg → Int32 → Int32 → Int32 → Option (Sg × Int32)
  | 0 => fun _ _ _ _ => none
  | n + 1 => x6_readBoth_b8_G (x6_readBoth_b8 rb n) x6_take x8_emit (x6_readPlain rb) x8_aim
noncomputable def t_x6_readBoth_b8 (K8 : Sg → Int32 → Int32 → Int32 → Option (Sg × Int32)) (c_x6_take : Sg → Int32 → Option (Sg × Int32)) (c_x8_emit : Sg → Nat → Int32 → Int32 → Option Sg) (c_x6_readPlain : Sg → Int32 → Option (Sg × Int32)) (c_x8_aim : Sg → Nat → Int32 → Option Sg) : Bk (Sg × Int32) := (s_ldI 3 (s_ic 400 (s_clt
  (s_ldI 2 (s_eq0
    (s_ldI 2 (s_zret retI))
    (s_ldA 0 (s_ic 3011 (s_call (FW_x6_take c_x6_take) 2 (s_eq0
      (s_ldI 2 (s_zret retI))
      (s_ldA 0 (s_getRc 6 0 8 0 (s_getI 8 7 (s_stI 4 (s_ldA 0 (s_getRc 6 0 8 0 (s_ic 4 (s_ic 0 (s_call (FW_x8_emit c_x8_emit) 3 (s_ldA 0 (s_ldI 1 (s_call (FW_x6_readPlain c_x6_readPlain) 2 (s_stI 2 (s_ldA 0 (s_getRc 6 0 8 0 (s_ldI 4 (s_call (FW_x8_aim c_x8_aim) 2 (s_inc 3 1 (s_goto (p_C 0 6 0 <| p_I 1 fun a1 => p_I 2 fun a2 => p_I 3 fun a3 => p_E fun s => K8 s a1 a2 a3))))))))))))))))))))))))))
  (s_ldI 2 (s_zret retI)))))
set_option maxRecDepth 20000 in
theorem e_x6_readBoth_b8 (K8 : Sg → Int32 → Int32 → Int32 → Option (Sg × Int32)) (c_x6_take : Sg → Int32 → Option (Sg × Int32)) (c_x8_emit : Sg → Nat → Int32 → Int32 → Option Sg) (c_x6_readPlain : Sg → Int32 → Option (Sg × Int32)) (c_x8_aim : Sg → Nat → Int32 → Option Sg) (s : Sg) (l1 : Int32) (l2 : Int32) (l3 : Int32) : x6_readBoth_b8_G K8 c_x6_take c_x8_emit c_x6_readPlain c_x8_aim s l1 l2 l3 = t_x6_readBoth_b8 K8 c_x6_take c_x8_emit c_x6_readPlain c_x8_aim [some (.inr (.inr (some (6, 0)))), some (.inl l1), some (.inl l2), some (.inl l3), none] [] s := rfl
noncomputable def x6_readBoth_G (K8 : Sg → Int32 → Int32 → Int32 → Option (Sg × Int32)) (c_x6_readPlain : Sg → Int32 → Option (Sg × Int32)) (s : Sg) (l1 : Int32) : Option (Sg × Int32) :=
  (c_x6_readPlain s l1).bind fun q1 => (
  K8 q1.1 l1 q1.2 0)
noncomputable def x6_readBoth (rb : Sg → Int32 → Option (Sg × Int32)) : Sg → Int32 → Option (Sg × Int32) := x6_readBoth_G (x6_readBoth_b8 rb FU) (x6_readPlain rb)
noncomputable def t_x6_readBoth (K8 : Sg → Int32 → Int32 → Int32 → Option (Sg × Int32)) (c_x6_readPlain : Sg → Int32 → Option (Sg × Int32)) : Bk (Sg × Int32) := (s_ldA 0 (s_ldI 1 (s_call (FW_x6_readPlain c_x6_readPlain) 2 (s_stI 2 (s_ic 0 (s_stI 3 (p_C 0 6 0 <| p_I 1 fun a1 => p_I 2 fun a2 => p_I 3 fun a3 => p_E fun s => K8 s a1 a2 a3)))))))
set_option maxRecDepth 20000 in
theorem e_x6_readBoth (K8 : Sg → Int32 → Int32 → Int32 → Option (Sg × Int32)) (c_x6_readPlain : Sg → Int32 → Option (Sg × Int32)) (s : Sg) (l1 : Int32) : x6_readBoth_G K8 c_x6_readPlain s l1 = t_x6_readBoth K8 c_x6_readPlain [some (.inr (.inr (some (6, 0)))), some (.inl l1), none, none, none] [] s := rfl
noncomputable def x6_readTest_b8_G (K8 : Sg → Int32 → Int32 → Int32 → Option (Sg × Int32)) (c_x6_take : Sg → Int32 → Option (Sg × Int32)) (c_x8_emit : Sg → Nat → Int32 → Int32 → Option Sg) (c_x6_readBoth : Sg → Int32 → Option (Sg × Int32)) (c_x8_aim : Sg → Nat → Int32 → Option Sg) (s : Sg) (l1 : Int32) (l2 : Int32) (l3 : Int32) : Option (Sg × Int32) :=
  gif ((l3 : Int32) < 400) (
    gif ((l2 : Int32) = 0) (
      gd (isB l2) (some (s, l2)))
    (
      (c_x6_take s 3010).bind fun q1 => (
      gif ((q1.2 : Int32) = 0) (
        gd (isB l2) (some (q1.1, l2)))
      (
        (c_x8_emit q1.1 0 5 0).bind fun s2 => (
        (c_x6_readBoth s2 l1).bind fun q3 => (
        (c_x8_aim q3.1 0 (rI q1.1 8 0 7)).bind fun s4 => (
        K8 s4 l1 q3.2 (l3 + 1))))))))
  (
    gd (isB l2) (some (s, l2)))
noncomputable def x6_readTest_b8 (rb : Sg → Int32 → Option (Sg × Int32)) : Nat → Sg → Int32 → Int32 → Int32 → Option (Sg × Int32)
  | 0 => fun _ _ _ _ => none
  | n + 1 => x6_readTest_b8_G (x6_readTest_b8 rb n) x6_take x8_emit (x6_readBoth rb) x8_aim
noncomputable def t_x6_readTest_b8 (K8 : Sg → Int32 → Int32 → Int32 → Option (Sg × Int32)) (c_x6_take : Sg → Int32 → Option (Sg × Int32)) (c_x8_emit : Sg → Nat → Int32 → Int32 → Option Sg) (c_x6_readBoth : Sg → Int32 → Option (Sg × Int32)) (c_x8_aim : Sg → Nat → Int32 → Option Sg) : Bk (Sg × Int32) := (s_ldI 3 (s_ic 400 (s_clt
  (s_ldI 2 (s_eq0
    (s_ldI 2 (s_zret retI))
    (s_ldA 0 (s_ic 3010 (s_call (FW_x6_take c_x6_take) 2 (s_eq0
      (s_ldI 2 (s_zret retI))
      (s_ldA 0 (s_getRc 6 0 8 0 (s_getI 8 7 (s_stI 4 (s_ldA 0 (s_getRc 6 0 8 0 (s_ic 5 (s_ic 0 (s_call (FW_x8_emit c_x8_emit) 3 (s_ldA 0 (s_ldI 1 (s_call (FW_x6_readBoth c_x6_readBoth) 2 (s_stI 2 (s_ldA 0 (s_getRc 6 0 8 0 (s_ldI 4 (s_call (FW_x8_aim c_x8_aim) 2 (s_inc 3 1 (s_goto (p_C 0 6 0 <| p_I 1 fun a1 => p_I 2 fun a2 => p_I 3 fun a3 => p_E fun s => K8 s a1 a2 a3))))))))))))))))))))))))))
  (s_ldI 2 (s_zret retI)))))
set_option maxRecDepth 20000 in
theorem e_x6_readTest_b8 (K8 : Sg → Int32 → Int32 → Int32 → Option (Sg × Int32)) (c_x6_take : Sg → Int32 → Option (Sg × Int32)) (c_x8_emit : Sg → Nat → Int32 → Int32 → Option Sg) (c_x6_readBoth : Sg → Int32 → Option (Sg × Int32)) (c_x8_aim : Sg → Nat → Int32 → Option Sg) (s : Sg) (l1 : Int32) (l2 : Int32) (l3 : Int32) : x6_readTest_b8_G K8 c_x6_take c_x8_emit c_x6_readBoth c_x8_aim s l1 l2 l3 = t_x6_readTest_b8 K8 c_x6_take c_x8_emit c_x6_readBoth c_x8_aim [some (.inr (.inr (some (6, 0)))), some (.inl l1), some (.inl l2), some (.inl l3), none] [] s := rfl
noncomputable def x6_readTest_G (K8 : Sg → Int32 → Int32 → Int32 → Option (Sg × Int32)) (c_x6_readBoth : Sg → Int32 → Option (Sg × Int32)) (s : Sg) (l1 : Int32) : Option (Sg × Int32) :=
  (c_x6_readBoth s l1).bind fun q1 => (
  K8 q1.1 l1 q1.2 0)
noncomputable def x6_readTest (rb : Sg → Int32 → Option (Sg × Int32)) : Sg → Int32 → Option (Sg × Int32) := x6_readTest_G (x6_readTest_b8 rb FU) (x6_readBoth rb)
noncomputable def t_x6_readTest (K8 : Sg → Int32 → Int32 → Int32 → Option (Sg × Int32)) (c_x6_readBoth : Sg → Int32 → Option (Sg × Int32)) : Bk (Sg × Int32) := (s_ldA 0 (s_ldI 1 (s_call (FW_x6_readBoth c_x6_readBoth) 2 (s_stI 2 (s_ic 0 (s_stI 3 (p_C 0 6 0 <| p_I 1 fun a1 => p_I 2 fun a2 => p_I 3 fun a3 => p_E fun s => K8 s a1 a2 a3)))))))
set_option maxRecDepth 20000 in
theorem e_x6_readTest (K8 : Sg → Int32 → Int32 → Int32 → Option (Sg × Int32)) (c_x6_readBoth : Sg → Int32 → Option (Sg × Int32)) (s : Sg) (l1 : Int32) : x6_readTest_G K8 c_x6_readBoth s l1 = t_x6_readTest K8 c_x6_readBoth [some (.inr (.inr (some (6, 0)))), some (.inl l1), none, none, none] [] s := rfl
noncomputable def x6_takeOrFail_G (c_x6_take : Sg → Int32 → Option (Sg × Int32)) (c_x6_failHere : Sg → Option (Sg × Int32)) (s : Sg) (l1 : Int32) : Option (Sg × Int32) :=
  (c_x6_take s l1).bind fun q1 => (
  gif ((q1.2 : Int32) = 0) (
    (c_x6_failHere q1.1).bind fun q2 => (
    gif ((q2.2 : Int32) = 0) (
      gd (isB 0) (some (q2.1, 0)))
    (
      gd (isB 1) (some (q2.1, 1)))))
  (
    gd (isB 1) (some (q1.1, 1))))
noncomputable def x6_takeOrFail : Sg → Int32 → Option (Sg × Int32) := x6_takeOrFail_G x6_take x6_failHere
noncomputable def t_x6_takeOrFail (c_x6_take : Sg → Int32 → Option (Sg × Int32)) (c_x6_failHere : Sg → Option (Sg × Int32)) : Bk (Sg × Int32) := (s_ldA 0 (s_ldI 1 (s_call (FW_x6_take c_x6_take) 2 (s_eq0
  (s_ldA 0 (s_call (FW_x6_failHere c_x6_failHere) 1 (s_eq0
    (s_ic 0 (s_zret retI))
    (s_ic 1 (s_goto (s_zret retI))))))
  (s_ic 1 (s_goto (s_zret retI)))))))
set_option maxRecDepth 20000 in
theorem e_x6_takeOrFail (c_x6_take : Sg → Int32 → Option (Sg × Int32)) (c_x6_failHere : Sg → Option (Sg × Int32)) (s : Sg) (l1 : Int32) : x6_takeOrFail_G c_x6_take c_x6_failHere s l1 = t_x6_takeOrFail c_x6_take c_x6_failHere [some (.inr (.inr (some (6, 0)))), some (.inl l1)] [] s := rfl
noncomputable def x6_readBracketed_G (c_x6_failHere : Sg → Option (Sg × Int32)) (c_x6_take : Sg → Int32 → Option (Sg × Int32)) (c_x6_readTest : Sg → Int32 → Option (Sg × Int32)) (c_x6_takeOrFail : Sg → Int32 → Option (Sg × Int32)) (c_x6_readSum : Sg → Int32 → Option (Sg × Int32)) (s : Sg) (l1 : Int32) : Option (Sg × Int32) :=
  gif ((l1 : Int32) < 8) (
    (c_x6_take s 2040).bind fun q1 => (
    gif ((q1.2 : Int32) = 0) (
      (c_x6_takeOrFail q1.1 2091).bind fun q2 => (
      gif ((q2.2 : Int32) = 0) (
        gd (isB 0) (some (q2.1, 0)))
      (
        (c_x6_readSum q2.1 (l1 + 1)).bind fun q3 => (
        gif ((q3.2 : Int32) = 0) (
          gd (isB 0) (some (q3.1, 0)))
        (
          (c_x6_takeOrFail q3.1 2093).bind fun q4 => (
          gif ((q4.2 : Int32) = 0) (
            gd (isB 0) (some (q4.1, 0)))
          (
            gd (isB 1) (some (q4.1, 1)))))))))
    (
      (c_x6_readTest q1.1 (l1 + 1)).bind fun q5 => (
      gif ((q5.2 : Int32) = 0) (
        gd (isB 0) (some (q5.1, 0)))
      (
        (c_x6_takeOrFail q5.1 2041).bind fun q6 => (
        gif ((q6.2 : Int32) = 0) (
          gd (isB 0) (some (q6.1, 0)))
        (
          gd (isB 1) (some (q6.1, 1)))))))))
  (
    (c_x6_failHere s).bind fun q7 => (
    gd (isB q7.2) (some (q7.1, q7.2))))
noncomputable def x6_readBracketed : Nat → Sg → Int32 → Option (Sg × Int32)
  | 0 => fun _ _ => none
  | d + 1 => x6_readBracketed_G x6_failHere x6_take (x6_readTest (x6_readBracketed d)) x6_takeOrFail (x6_readSum (x6_readBracketed d))
noncomputable def t_x6_readBracketed (c_x6_failHere : Sg → Option (Sg × Int32)) (c_x6_take : Sg → Int32 → Option (Sg × Int32)) (c_x6_readTest : Sg → Int32 → Option (Sg × Int32)) (c_x6_takeOrFail : Sg → Int32 → Option (Sg × Int32)) (c_x6_readSum : Sg → Int32 → Option (Sg × Int32)) : Bk (Sg × Int32) := (s_ldI 1 (s_ic 8 (s_clt
  (s_ldA 0 (s_ic 2040 (s_call (FW_x6_take c_x6_take) 2 (s_eq0
    (s_ldA 0 (s_ic 2091 (s_call (FW_x6_takeOrFail c_x6_takeOrFail) 2 (s_eq0
      (s_ic 0 (s_zret retI))
      (s_ldA 0 (s_ldI 1 (s_ic 1 (s_bin (fun x y => x + y) (s_call (FW_x6_readSum c_x6_readSum) 2 (s_eq0
        (s_ic 0 (s_zret retI))
        (s_ldA 0 (s_ic 2093 (s_call (FW_x6_takeOrFail c_x6_takeOrFail) 2 (s_eq0
          (s_ic 0 (s_zret retI))
          (s_ic 1 (s_goto (s_zret retI)))))))))))))))))
    (s_ldA 0 (s_ldI 1 (s_ic 1 (s_bin (fun x y => x + y) (s_call (FW_x6_readTest c_x6_readTest) 2 (s_eq0
      (s_ic 0 (s_zret retI))
      (s_ldA 0 (s_ic 2041 (s_call (FW_x6_takeOrFail c_x6_takeOrFail) 2 (s_eq0
        (s_ic 0 (s_zret retI))
        (s_ic 1 (s_goto (s_zret retI)))))))))))))))))
  (s_ldA 0 (s_call (FW_x6_failHere c_x6_failHere) 1 (s_zret retI))))))
set_option maxRecDepth 20000 in
theorem e_x6_readBracketed (c_x6_failHere : Sg → Option (Sg × Int32)) (c_x6_take : Sg → Int32 → Option (Sg × Int32)) (c_x6_readTest : Sg → Int32 → Option (Sg × Int32)) (c_x6_takeOrFail : Sg → Int32 → Option (Sg × Int32)) (c_x6_readSum : Sg → Int32 → Option (Sg × Int32)) (s : Sg) (l1 : Int32) : x6_readBracketed_G c_x6_failHere c_x6_take c_x6_readTest c_x6_takeOrFail c_x6_readSum s l1 = t_x6_readBracketed c_x6_failHere c_x6_take c_x6_readTest c_x6_takeOrFail c_x6_readSum [some (.inr (.inr (some (6, 0)))), some (.inl l1)] [] s := rfl
noncomputable def x6_readOrder_b142_G (c_x6_take : Sg → Int32 → Option (Sg × Int32)) (c_x6_takeFrom : Sg → Int32 → Int32 → Option (Sg × Int32)) (s : Sg) (l1 : Int32) (l3 : Int32) : Option (Sg × Int32) :=
  gif ((l3 : Int32) = 0) (
    gd (isB l3) (some (s, l3)))
  (
    (c_x6_take s 3008).bind fun q1 => (
    gif ((q1.2 : Int32) = 0) (
      gd (isB l3) (some (q1.1, l3)))
    (
      (c_x6_takeFrom q1.1 1 20).bind fun q2 => (
      gd (inb l1 12) (
      let s3 := wI q2.1 32 0 (ix l1) q2.2
      gd (inb l1 12) (
      gif (((rI s3 32 0 (ix l1)) : Int32) = (-1)) (
        gd (isB 0) (some (s3, 0)))
      (
        gd (isB 1) (some (s3, 1)))))))))
noncomputable def x6_readOrder_b142 : Sg → Int32 → Int32 → Option (Sg × Int32) := x6_readOrder_b142_G x6_take x6_takeFrom
noncomputable def t_x6_readOrder_b142 (c_x6_take : Sg → Int32 → Option (Sg × Int32)) (c_x6_takeFrom : Sg → Int32 → Int32 → Option (Sg × Int32)) : Bk (Sg × Int32) := (s_ldI 3 (s_eq0
  (s_ldI 3 (s_zret retI))
  (s_ldA 0 (s_ic 3008 (s_call (FW_x6_take c_x6_take) 2 (s_eq0
    (s_ldI 3 (s_zret retI))
    (s_ldA 0 (s_getRc 6 0 8 0 (s_getRv 8 1 32 (s_ldI 1 (s_ldA 0 (s_ic 1 (s_ic 20 (s_call (FW_x6_takeFrom c_x6_takeFrom) 3 (s_iast 32 12 (s_ldA 0 (s_getRc 6 0 8 0 (s_getRv 8 1 32 (s_ldI 1 (s_iald 32 12 (s_ic (-1) (s_ceq
      (s_ic 0 (s_stI 3 (s_ldI 3 (s_zret retI))))
      (s_ic 1 (s_goto (s_stI 3 (s_ldI 3 (s_zret retI)))))))))))))))))))))))))))
set_option maxRecDepth 20000 in
theorem e_x6_readOrder_b142 (c_x6_take : Sg → Int32 → Option (Sg × Int32)) (c_x6_takeFrom : Sg → Int32 → Int32 → Option (Sg × Int32)) (s : Sg) (l1 : Int32) (l3 : Int32) : x6_readOrder_b142_G c_x6_take c_x6_takeFrom s l1 l3 = t_x6_readOrder_b142 c_x6_take c_x6_takeFrom [some (.inr (.inr (some (6, 0)))), some (.inl l1), none, some (.inl l3)] [] s := rfl
noncomputable def x6_readOrder_b79_G (K142 : Sg → Int32 → Int32 → Option (Sg × Int32)) (c_x6_takeOrFail : Sg → Int32 → Option (Sg × Int32)) (c_x6_readSum : Sg → Int32 → Option (Sg × Int32)) (c_x8_emit : Sg → Nat → Int32 → Int32 → Option Sg) (s : Sg) (l1 : Int32) (l2 : Int32) (l3 : Int32) : Option (Sg × Int32) :=
  gif ((l3 : Int32) = 0) (
    K142 s l1 l3)
  (
    gif ((l2 : Int32) = 3005) (
      (c_x6_takeOrFail s 3007).bind fun q1 => (
      gd (inb l1 12) (
      let s2 := wI q1.1 34 0 (ix l1) (rI q1.1 8 0 7)
      gif ((q1.2 : Int32) = 0) (
        (c_x8_emit s2 0 6 0).bind fun s3 => (
        K142 s3 l1 0))
      (
        (c_x6_readSum s2 0).bind fun q4 => (
        gif ((q4.2 : Int32) = 0) (
          (c_x8_emit q4.1 0 6 0).bind fun s5 => (
          K142 s5 l1 0))
        (
          (c_x8_emit q4.1 0 6 0).bind fun s6 => (
          K142 s6 l1 1)))))))
    (
      K142 s l1 l3))
noncomputable def x6_readOrder_b79 : Sg → Int32 → Int32 → Int32 → Option (Sg × Int32) := x6_readOrder_b79_G (x6_readOrder_b142) x6_takeOrFail (x6_readSum (x6_readBracketed DR)) x8_emit
noncomputable def t_x6_readOrder_b79 (K142 : Sg → Int32 → Int32 → Option (Sg × Int32)) (c_x6_takeOrFail : Sg → Int32 → Option (Sg × Int32)) (c_x6_readSum : Sg → Int32 → Option (Sg × Int32)) (c_x8_emit : Sg → Nat → Int32 → Int32 → Option Sg) : Bk (Sg × Int32) := (s_ldI 3 (s_eq0
  (p_C 0 6 0 <| p_I 1 fun a1 => p_I 3 fun a3 => p_E fun s => K142 s a1 a3)
  (s_ldI 2 (s_ic 3005 (s_ceq
    (s_ldA 0 (s_ic 3007 (s_call (FW_x6_takeOrFail c_x6_takeOrFail) 2 (s_stI 3 (s_ldA 0 (s_getRc 6 0 8 0 (s_getRv 8 3 34 (s_ldI 1 (s_ldA 0 (s_getRc 6 0 8 0 (s_getI 8 7 (s_iast 34 12 (s_ldI 3 (s_eq0
      (s_ic 0 (s_stI 3 (s_ldA 0 (s_getRc 6 0 8 0 (s_ic 6 (s_ic 0 (s_call (FW_x8_emit c_x8_emit) 3 (p_C 0 6 0 <| p_I 1 fun a1 => p_I 3 fun a3 => p_E fun s => K142 s a1 a3))))))))
      (s_ldA 0 (s_ic 0 (s_call (FW_x6_readSum c_x6_readSum) 2 (s_eq0
        (s_ic 0 (s_stI 3 (s_ldA 0 (s_getRc 6 0 8 0 (s_ic 6 (s_ic 0 (s_call (FW_x8_emit c_x8_emit) 3 (p_C 0 6 0 <| p_I 1 fun a1 => p_I 3 fun a3 => p_E fun s => K142 s a1 a3))))))))
        (s_ic 1 (s_goto (s_stI 3 (s_ldA 0 (s_getRc 6 0 8 0 (s_ic 6 (s_ic 0 (s_call (FW_x8_emit c_x8_emit) 3 (p_C 0 6 0 <| p_I 1 fun a1 => p_I 3 fun a3 => p_E fun s => K142 s a1 a3)))))))))))))))))))))))))))
    (p_C 0 6 0 <| p_I 1 fun a1 => p_I 3 fun a3 => p_E fun s => K142 s a1 a3))))))
set_option maxRecDepth 20000 in
theorem e_x6_readOrder_b79 (K142 : Sg → Int32 → Int32 → Option (Sg × Int32)) (c_x6_takeOrFail : Sg → Int32 → Option (Sg × Int32)) (c_x6_readSum : Sg → Int32 → Option (Sg × Int32)) (c_x8_emit : Sg → Nat → Int32 → Int32 → Option Sg) (s : Sg) (l1 : Int32) (l2 : Int32) (l3 : Int32) : x6_readOrder_b79_G K142 c_x6_takeOrFail c_x6_readSum c_x8_emit s l1 l2 l3 = t_x6_readOrder_b79 K142 c_x6_takeOrFail c_x6_readSum c_x8_emit [some (.inr (.inr (some (6, 0)))), some (.inl l1), some (.inl l2), some (.inl l3)] [] s := rfl
noncomputable def x6_readOrder_b21_G (K79 : Sg → Int32 → Int32 → Int32 → Option (Sg × Int32)) (c_x6_readSum : Sg → Int32 → Option (Sg × Int32)) (c_x8_emit : Sg → Nat → Int32 → Int32 → Option Sg) (s : Sg) (l1 : Int32) (l2 : Int32) (y0 : Int32) : Option (Sg × Int32) :=
  gd (inb l1 12) (
  let s1 := wI s 31 0 (ix l1) (l2 - 3003)
  gif ((y0 : Int32) = 0) (
    K79 s1 l1 l2 y0)
  (
    gif ((l2 : Int32) = 3006) (
      K79 s1 l1 l2 y0)
    (
      gd (inb l1 12) (
      let s2 := wI s1 33 0 (ix l1) (rI s1 8 0 7)
      (c_x6_readSum s2 0).bind fun q3 => (
      (c_x8_emit q3.1 0 6 0).bind fun s4 => (
      K79 s4 l1 l2 q3.2))))))
noncomputable def x6_readOrder_b21 : Sg → Int32 → Int32 → Int32 → Option (Sg × Int32) := x6_readOrder_b21_G (x6_readOrder_b79) (x6_readSum (x6_readBracketed DR)) x8_emit
noncomputable def t_x6_readOrder_b21 (K79 : Sg → Int32 → Int32 → Int32 → Option (Sg × Int32)) (c_x6_readSum : Sg → Int32 → Option (Sg × Int32)) (c_x8_emit : Sg → Nat → Int32 → Int32 → Option Sg) : Bk (Sg × Int32) := (s_stI 3 (s_ldA 0 (s_getRc 6 0 8 0 (s_getRv 8 0 31 (s_ldI 1 (s_ldI 2 (s_ic 3003 (s_bin (fun x y => x - y) (s_iast 31 12 (s_ldI 3 (s_eq0
  (p_C 0 6 0 <| p_I 1 fun a1 => p_I 2 fun a2 => p_I 3 fun a3 => p_E fun s => K79 s a1 a2 a3)
  (s_ldI 2 (s_ic 3006 (s_ceq
    (p_C 0 6 0 <| p_I 1 fun a1 => p_I 2 fun a2 => p_I 3 fun a3 => p_E fun s => K79 s a1 a2 a3)
    (s_ldA 0 (s_getRc 6 0 8 0 (s_getRv 8 2 33 (s_ldI 1 (s_ldA 0 (s_getRc 6 0 8 0 (s_getI 8 7 (s_iast 33 12 (s_ldA 0 (s_ic 0 (s_call (FW_x6_readSum c_x6_readSum) 2 (s_stI 3 (s_ldA 0 (s_getRc 6 0 8 0 (s_ic 6 (s_ic 0 (s_call (FW_x8_emit c_x8_emit) 3 (p_C 0 6 0 <| p_I 1 fun a1 => p_I 2 fun a2 => p_I 3 fun a3 => p_E fun s => K79 s a1 a2 a3))))))))))))))))))))))))))))))))
set_option maxRecDepth 20000 in
theorem e_x6_readOrder_b21 (K79 : Sg → Int32 → Int32 → Int32 → Option (Sg × Int32)) (c_x6_readSum : Sg → Int32 → Option (Sg × Int32)) (c_x8_emit : Sg → Nat → Int32 → Int32 → Option Sg) (s : Sg) (l1 : Int32) (l2 : Int32) (y0 : Int32) : x6_readOrder_b21_G K79 c_x6_readSum c_x8_emit s l1 l2 y0 = t_x6_readOrder_b21 K79 c_x6_readSum c_x8_emit [some (.inr (.inr (some (6, 0)))), some (.inl l1), some (.inl l2), none] [.inl y0] s := rfl
noncomputable def x6_readOrder_G (K21 : Sg → Int32 → Int32 → Int32 → Option (Sg × Int32)) (c_x6_takeFrom : Sg → Int32 → Int32 → Option (Sg × Int32)) (s : Sg) (l1 : Int32) : Option (Sg × Int32) :=
  (c_x6_takeFrom s 3003 3006).bind fun q1 => (
  gif ((q1.2 : Int32) = (-1)) (
    K21 q1.1 l1 q1.2 0)
  (
    K21 q1.1 l1 q1.2 1))
noncomputable def x6_readOrder : Sg → Int32 → Option (Sg × Int32) := x6_readOrder_G (x6_readOrder_b21) x6_takeFrom
noncomputable def t_x6_readOrder (K21 : Sg → Int32 → Int32 → Int32 → Option (Sg × Int32)) (c_x6_takeFrom : Sg → Int32 → Int32 → Option (Sg × Int32)) : Bk (Sg × Int32) := (s_ldA 0 (s_ic 3003 (s_ic 3006 (s_call (FW_x6_takeFrom c_x6_takeFrom) 3 (s_stI 2 (s_ldI 2 (s_ic (-1) (s_ceq
  (s_ic 0 (p_C 0 6 0 <| p_I 1 fun a1 => p_I 2 fun a2 => q_I fun b0 => p_E fun s => K21 s a1 a2 b0))
  (s_ic 1 (s_goto (p_C 0 6 0 <| p_I 1 fun a1 => p_I 2 fun a2 => q_I fun b0 => p_E fun s => K21 s a1 a2 b0)))))))))))
set_option maxRecDepth 20000 in
theorem e_x6_readOrder (K21 : Sg → Int32 → Int32 → Int32 → Option (Sg × Int32)) (c_x6_takeFrom : Sg → Int32 → Int32 → Option (Sg × Int32)) (s : Sg) (l1 : Int32) : x6_readOrder_G K21 c_x6_takeFrom s l1 = t_x6_readOrder K21 c_x6_takeFrom [some (.inr (.inr (some (6, 0)))), some (.inl l1), none, none] [] s := rfl
noncomputable def x6_readRule_G (c_x6_takeFrom : Sg → Int32 → Int32 → Option (Sg × Int32)) (c_x6_readSum : Sg → Int32 → Option (Sg × Int32)) (c_x8_emit : Sg → Nat → Int32 → Int32 → Option Sg) (s : Sg) (l1 : Int32) : Option (Sg × Int32) :=
  (c_x6_takeFrom s 3000 3002).bind fun q1 => (
  gif ((q1.2 : Int32) = (-1)) (
    gd (isB 0) (some (q1.1, 0)))
  (
    gd (inb l1 12) (
    let s2 := wI q1.1 31 0 (ix l1) (q1.2 - 3000)
    gif ((q1.2 : Int32) = 3002) (
      gd (isB 1) (some (s2, 1)))
    (
      gd (inb l1 12) (
      let s3 := wI s2 33 0 (ix l1) (rI s2 8 0 7)
      (c_x6_readSum s3 0).bind fun q4 => (
      (c_x8_emit q4.1 0 6 0).bind fun s5 => (
      gd (isB q4.2) (some (s5, q4.2)))))))))
noncomputable def x6_readRule : Sg → Int32 → Option (Sg × Int32) := x6_readRule_G x6_takeFrom (x6_readSum (x6_readBracketed DR)) x8_emit
noncomputable def t_x6_readRule (c_x6_takeFrom : Sg → Int32 → Int32 → Option (Sg × Int32)) (c_x6_readSum : Sg → Int32 → Option (Sg × Int32)) (c_x8_emit : Sg → Nat → Int32 → Int32 → Option Sg) : Bk (Sg × Int32) := (s_ldA 0 (s_ic 3000 (s_ic 3002 (s_call (FW_x6_takeFrom c_x6_takeFrom) 3 (s_stI 2 (s_ldI 2 (s_ic (-1) (s_ceq
  (s_ic 0 (s_zret retI))
  (s_ldA 0 (s_getRc 6 0 8 0 (s_getRv 8 0 31 (s_ldI 1 (s_ldI 2 (s_ic 3000 (s_bin (fun x y => x - y) (s_iast 31 12 (s_ldI 2 (s_ic 3002 (s_ceq
    (s_ic 1 (s_zret retI))
    (s_ldA 0 (s_getRc 6 0 8 0 (s_getRv 8 2 33 (s_ldI 1 (s_ldA 0 (s_getRc 6 0 8 0 (s_getI 8 7 (s_iast 33 12 (s_ldA 0 (s_ic 0 (s_call (FW_x6_readSum c_x6_readSum) 2 (s_stI 3 (s_ldA 0 (s_getRc 6 0 8 0 (s_ic 6 (s_ic 0 (s_call (FW_x8_emit c_x8_emit) 3 (s_ldI 3 (s_zret retI))))))))))))))))))))))))))))))))))))))
set_option maxRecDepth 20000 in
theorem e_x6_readRule (c_x6_takeFrom : Sg → Int32 → Int32 → Option (Sg × Int32)) (c_x6_readSum : Sg → Int32 → Option (Sg × Int32)) (c_x8_emit : Sg → Nat → Int32 → Int32 → Option Sg) (s : Sg) (l1 : Int32) : x6_readRule_G c_x6_takeFrom c_x6_readSum c_x8_emit s l1 = t_x6_readRule c_x6_takeFrom c_x6_readSum c_x8_emit [some (.inr (.inr (some (6, 0)))), some (.inl l1), none, none] [] s := rfl
noncomputable def x6_readClause_b75_G (c_x6_take : Sg → Int32 → Option (Sg × Int32)) (c_x6_readTest : Sg → Int32 → Option (Sg × Int32)) (c_x8_emit : Sg → Nat → Int32 → Int32 → Option Sg) (s : Sg) (l1 : Int32) (y0 : Int32) : Option (Sg × Int32) :=
  gif ((y0 : Int32) = 0) (
    let s1 := wI s 8 0 6 (l1 + 1)
    gd (isB y0) (some (s1, y0)))
  (
    (c_x6_take s 3009).bind fun q2 => (
    gif ((q2.2 : Int32) = 0) (
      let s3 := wI q2.1 8 0 6 (l1 + 1)
      gd (isB y0) (some (s3, y0)))
    (
      gd (inb l1 12) (
      let s4 := wI q2.1 35 0 (ix l1) (rI q2.1 8 0 7)
      (c_x6_readTest s4 0).bind fun q5 => (
      (c_x8_emit q5.1 0 6 0).bind fun s6 => (
      let s7 := wI s6 8 0 6 (l1 + 1)
      gd (isB q5.2) (some (s7, q5.2))))))))
noncomputable def x6_readClause_b75 : Sg → Int32 → Int32 → Option (Sg × Int32) := x6_readClause_b75_G x6_take (x6_readTest (x6_readBracketed DR)) x8_emit
noncomputable def t_x6_readClause_b75 (c_x6_take : Sg → Int32 → Option (Sg × Int32)) (c_x6_readTest : Sg → Int32 → Option (Sg × Int32)) (c_x8_emit : Sg → Nat → Int32 → Int32 → Option Sg) : Bk (Sg × Int32) := (s_stI 2 (s_ldI 2 (s_eq0
  (s_ldA 0 (s_getRc 6 0 8 0 (s_ldI 1 (s_ic 1 (s_bin (fun x y => x + y) (s_putI 8 6 (s_ldI 2 (s_zret retI))))))))
  (s_ldA 0 (s_ic 3009 (s_call (FW_x6_take c_x6_take) 2 (s_eq0
    (s_ldA 0 (s_getRc 6 0 8 0 (s_ldI 1 (s_ic 1 (s_bin (fun x y => x + y) (s_putI 8 6 (s_ldI 2 (s_zret retI))))))))
    (s_ldA 0 (s_getRc 6 0 8 0 (s_getRv 8 4 35 (s_ldI 1 (s_ldA 0 (s_getRc 6 0 8 0 (s_getI 8 7 (s_iast 35 12 (s_ldA 0 (s_ic 0 (s_call (FW_x6_readTest c_x6_readTest) 2 (s_stI 2 (s_ldA 0 (s_getRc 6 0 8 0 (s_ic 6 (s_ic 0 (s_call (FW_x8_emit c_x8_emit) 3 (s_ldA 0 (s_getRc 6 0 8 0 (s_ldI 1 (s_ic 1 (s_bin (fun x y => x + y) (s_putI 8 6 (s_ldI 2 (s_zret retI))))))))))))))))))))))))))))))))
set_option maxRecDepth 20000 in
theorem e_x6_readClause_b75 (c_x6_take : Sg → Int32 → Option (Sg × Int32)) (c_x6_readTest : Sg → Int32 → Option (Sg × Int32)) (c_x8_emit : Sg → Nat → Int32 → Int32 → Option Sg) (s : Sg) (l1 : Int32) (y0 : Int32) : x6_readClause_b75_G c_x6_take c_x6_readTest c_x8_emit s l1 y0 = t_x6_readClause_b75 c_x6_take c_x6_readTest c_x8_emit [some (.inr (.inr (some (6, 0)))), some (.inl l1), none] [.inl y0] s := rfl
noncomputable def x6_readClause_G (K75 : Sg → Int32 → Int32 → Option (Sg × Int32)) (c_x6_failHere : Sg → Option (Sg × Int32)) (c_x6_readOrder : Sg → Int32 → Option (Sg × Int32)) (c_x6_readRule : Sg → Int32 → Option (Sg × Int32)) (s : Sg) (l1 : Int32) : Option (Sg × Int32) :=
  gif ((l1 : Int32) < 0) (
    (c_x6_failHere s).bind fun q1 => (
    gd (isB q1.2) (some (q1.1, q1.2))))
  (
    gif ((l1 : Int32) < 12) (
      gd (inb l1 12) (
      let s2 := wI s 32 0 (ix l1) 1
      gd (inb l1 12) (
      let s3 := wI s2 33 0 (ix l1) (-1)
      gd (inb l1 12) (
      let s4 := wI s3 34 0 (ix l1) (-1)
      gd (inb l1 12) (
      let s5 := wI s4 35 0 (ix l1) (-1)
      gif (((rI s5 6 0 5) : Int32) = 0) (
        (c_x6_readRule s5 l1).bind fun q6 => (
        K75 q6.1 l1 q6.2))
      (
        (c_x6_readOrder s5 l1).bind fun q7 => (
        K75 q7.1 l1 q7.2)))))))
    (
      (c_x6_failHere s).bind fun q8 => (
      gd (isB q8.2) (some (q8.1, q8.2)))))
noncomputable def x6_readClause : Sg → Int32 → Option (Sg × Int32) := x6_readClause_G (x6_readClause_b75) x6_failHere x6_readOrder x6_readRule
noncomputable def t_x6_readClause (K75 : Sg → Int32 → Int32 → Option (Sg × Int32)) (c_x6_failHere : Sg → Option (Sg × Int32)) (c_x6_readOrder : Sg → Int32 → Option (Sg × Int32)) (c_x6_readRule : Sg → Int32 → Option (Sg × Int32)) : Bk (Sg × Int32) := (s_ldI 1 (s_lt0
  (s_ldA 0 (s_call (FW_x6_failHere c_x6_failHere) 1 (s_zret retI)))
  (s_ldI 1 (s_ic 12 (s_clt
    (s_ldA 0 (s_getRc 6 0 8 0 (s_getRv 8 1 32 (s_ldI 1 (s_ic 1 (s_iast 32 12 (s_ldA 0 (s_getRc 6 0 8 0 (s_getRv 8 2 33 (s_ldI 1 (s_ic (-1) (s_iast 33 12 (s_ldA 0 (s_getRc 6 0 8 0 (s_getRv 8 3 34 (s_ldI 1 (s_ic (-1) (s_iast 34 12 (s_ldA 0 (s_getRc 6 0 8 0 (s_getRv 8 4 35 (s_ldI 1 (s_ic (-1) (s_iast 35 12 (s_ldA 0 (s_getI 6 5 (s_eq0
      (s_ldA 0 (s_ldI 1 (s_call (FW_x6_readRule c_x6_readRule) 2 (p_C 0 6 0 <| p_I 1 fun a1 => q_I fun b0 => p_E fun s => K75 s a1 b0))))
      (s_ldA 0 (s_ldI 1 (s_call (FW_x6_readOrder c_x6_readOrder) 2 (s_goto (p_C 0 6 0 <| p_I 1 fun a1 => q_I fun b0 => p_E fun s => K75 s a1 b0))))))))))))))))))))))))))))))))
    (s_ldA 0 (s_call (FW_x6_failHere c_x6_failHere) 1 (s_zret retI))))))))
set_option maxRecDepth 20000 in
theorem e_x6_readClause (K75 : Sg → Int32 → Int32 → Option (Sg × Int32)) (c_x6_failHere : Sg → Option (Sg × Int32)) (c_x6_readOrder : Sg → Int32 → Option (Sg × Int32)) (c_x6_readRule : Sg → Int32 → Option (Sg × Int32)) (s : Sg) (l1 : Int32) : x6_readClause_G K75 c_x6_failHere c_x6_readOrder c_x6_readRule s l1 = t_x6_readClause K75 c_x6_failHere c_x6_readOrder c_x6_readRule [some (.inr (.inr (some (6, 0)))), some (.inl l1), none] [] s := rfl
