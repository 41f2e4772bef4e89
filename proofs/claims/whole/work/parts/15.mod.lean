noncomputable def m_laysSums_b89_G (K57 : Sg → Int32 → Int32 → Int32 → Option Sg) (K89 : Sg → Int32 → Int32 → Int32 → Int32 → Int32 → Option Sg) (c_m_lastPlace : Sg → Option (Sg × Int32)) (c_m_canLine : Sg → Int32 → Int32 → Int32 → Option (Sg × Int32)) (c_m_takesSum : Sg → Int32 → Int32 → Int32 → Int32 → Option Sg) (s : Sg) (l1 : Int32) (l2 : Int32) (l3 : Int32) (l4 : Int32) (l5 : Int32) : Option Sg :=
  (c_m_lastPlace s).bind fun q1 => (
  gif ((q1.2 : Int32) < l5) (
    K57 q1.1 l1 l2 (l3 + 1))
  (
    gif ((l4 : Int32) = 100000000) (
      K57 q1.1 l1 l2 (l3 + 1))
    (
      gif ((l4 : Int32) = (-100000000)) (
        K57 q1.1 l1 l2 (l3 + 1))
      (
        (c_m_canLine q1.1 l3 l2 l5).bind fun q2 => (
        gif ((q2.2 : Int32) = 0) (
          K89 q2.1 l1 l2 l3 l4 (l5 + 1))
        (
          (c_m_takesSum q2.1 l3 l2 l5 l1).bind fun s3 => (
          K89 s3 l1 l2 l3 l4 (l5 + 1))))))))
noncomputable def m_laysSums_b89 (K47 : Sg → Int32 → Int32 → Option Sg) (K57 : Sg → Int32 → Int32 → Int32 → Option Sg) : Nat → Sg → Int32 → Int32 → Int32 → Int32 → Int32 → Option Sg
  | 0 => fun _ _ _ _ _ _ => none
  | n + 1 => m_laysSums_b89_G K57 (m_laysSums_b89 K47 K57 n) m_lastPlace m_canLine m_takesSum
noncomputable def t_m_laysSums_b89 (K57 : Sg → Int32 → Int32 → Int32 → Option Sg) (K89 : Sg → Int32 → Int32 → Int32 → Int32 → Int32 → Option Sg) (c_m_lastPlace : Sg → Option (Sg × Int32)) (c_m_canLine : Sg → Int32 → Int32 → Int32 → Option (Sg × Int32)) (c_m_takesSum : Sg → Int32 → Int32 → Int32 → Int32 → Option Sg) : Bk Sg := (s_ldI 5 (s_ldA 0 (s_call (FW_m_lastPlace c_m_lastPlace) 1 (s_cgt
  (s_inc 3 1 (s_goto (p_C 0 10 0 <| p_I 1 fun a1 => p_I 2 fun a2 => p_I 3 fun a3 => p_E fun s => K57 s a1 a2 a3)))
  (s_ldI 4 (s_ic 100000000 (s_ceq
    (s_inc 3 1 (s_goto (p_C 0 10 0 <| p_I 1 fun a1 => p_I 2 fun a2 => p_I 3 fun a3 => p_E fun s => K57 s a1 a2 a3)))
    (s_ldI 4 (s_ic (-100000000) (s_ceq
      (s_inc 3 1 (s_goto (p_C 0 10 0 <| p_I 1 fun a1 => p_I 2 fun a2 => p_I 3 fun a3 => p_E fun s => K57 s a1 a2 a3)))
      (s_ldA 0 (s_ldI 3 (s_ldI 2 (s_ldI 5 (s_call (FW_m_canLine c_m_canLine) 4 (s_eq0
        (s_inc 5 1 (s_goto (p_C 0 10 0 <| p_I 1 fun a1 => p_I 2 fun a2 => p_I 3 fun a3 => p_I 4 fun a4 => p_I 5 fun a5 => p_E fun s => K89 s a1 a2 a3 a4 a5)))
        (s_ldA 0 (s_ldI 3 (s_ldI 2 (s_ldI 5 (s_ldI 1 (s_call (FW_m_takesSum c_m_takesSum) 5 (s_inc 5 1 (s_goto (p_C 0 10 0 <| p_I 1 fun a1 => p_I 2 fun a2 => p_I 3 fun a3 => p_I 4 fun a4 => p_I 5 fun a5 => p_E fun s => K89 s a1 a2 a3 a4 a5)))))))))))))))))))))))))
set_option maxRecDepth 20000 in
theorem e_m_laysSums_b89 (K57 : Sg → Int32 → Int32 → Int32 → Option Sg) (K89 : Sg → Int32 → Int32 → Int32 → Int32 → Int32 → Option Sg) (c_m_lastPlace : Sg → Option (Sg × Int32)) (c_m_canLine : Sg → Int32 → Int32 → Int32 → Option (Sg × Int32)) (c_m_takesSum : Sg → Int32 → Int32 → Int32 → Int32 → Option Sg) (s : Sg) (l1 : Int32) (l2 : Int32) (l3 : Int32) (l4 : Int32) (l5 : Int32) : m_laysSums_b89_G K57 K89 c_m_lastPlace c_m_canLine c_m_takesSum s l1 l2 l3 l4 l5 = t_m_laysSums_b89 K57 K89 c_m_lastPlace c_m_canLine c_m_takesSum [some (.inr (.inr (some (10, 0)))), some (.inl l1), some (.inl l2), some (.inl l3), some (.inl l4), some (.inl l5)] [] s := rfl
noncomputable def m_laysSums_b57_G (K47 : Sg → Int32 → Int32 → Option Sg) (K89 : Sg → Int32 → Int32 → Int32 → Int32 → Int32 → Option Sg) (c_m_isStart : Sg → Int32 → Option (Sg × Int32)) (c_m_stateAt : Sg → Int32 → Int32 → Option (Sg × Int32)) (s : Sg) (l1 : Int32) (l2 : Int32) (l3 : Int32) : Option Sg :=
  gif (((l2 + 1) : Int32) < l3) (
    K47 s l1 (l2 + 1))
  (
    (c_m_isStart s l2).bind fun q1 => (
    gif ((q1.2 : Int32) = 0) (
      K47 q1.1 l1 (l2 + 1))
    (
      (c_m_stateAt q1.1 l3 l2).bind fun q2 => (
      gd (inb q2.2 625) (
      K89 q2.1 l1 l2 l3 (rI q2.1 64 0 (ix q2.2)) (l2 + 1))))))
noncomputable def m_laysSums_b57 (K47 : Sg → Int32 → Int32 → Option Sg) : Nat → Sg → Int32 → Int32 → Int32 → Option Sg
  | 0 => fun _ _ _ _ => none
  | n + 1 => m_laysSums_b57_G K47 (m_laysSums_b89 K47 (m_laysSums_b57 K47 n) FU) m_isStart m_stateAt
noncomputable def t_m_laysSums_b57 (K47 : Sg → Int32 → Int32 → Option Sg) (K89 : Sg → Int32 → Int32 → Int32 → Int32 → Int32 → Option Sg) (c_m_isStart : Sg → Int32 → Option (Sg × Int32)) (c_m_stateAt : Sg → Int32 → Int32 → Option (Sg × Int32)) : Bk Sg := (s_ldI 3 (s_ldI 2 (s_ic 1 (s_bin (fun x y => x + y) (s_cgt
  (s_inc 2 1 (s_goto (p_C 0 10 0 <| p_I 1 fun a1 => p_I 2 fun a2 => p_E fun s => K47 s a1 a2)))
  (s_ldA 0 (s_ldI 2 (s_call (FW_m_isStart c_m_isStart) 2 (s_eq0
    (s_inc 2 1 (s_goto (p_C 0 10 0 <| p_I 1 fun a1 => p_I 2 fun a2 => p_E fun s => K47 s a1 a2)))
    (s_ldA 0 (s_getRc 10 50 64 0 (s_ldI 3 (s_ldI 2 (s_call (FW_m_stateAt c_m_stateAt) 2 (s_iald 64 625 (s_stI 4 (s_ldI 2 (s_ic 1 (s_bin (fun x y => x + y) (s_stI 5 (p_C 0 10 0 <| p_I 1 fun a1 => p_I 2 fun a2 => p_I 3 fun a3 => p_I 4 fun a4 => p_I 5 fun a5 => p_E fun s => K89 s a1 a2 a3 a4 a5)))))))))))))))))))))
set_option maxRecDepth 20000 in
theorem e_m_laysSums_b57 (K47 : Sg → Int32 → Int32 → Option Sg) (K89 : Sg → Int32 → Int32 → Int32 → Int32 → Int32 → Option Sg) (c_m_isStart : Sg → Int32 → Option (Sg × Int32)) (c_m_stateAt : Sg → Int32 → Int32 → Option (Sg × Int32)) (s : Sg) (l1 : Int32) (l2 : Int32) (l3 : Int32) : m_laysSums_b57_G K47 K89 c_m_isStart c_m_stateAt s l1 l2 l3 = t_m_laysSums_b57 K47 K89 c_m_isStart c_m_stateAt [some (.inr (.inr (some (10, 0)))), some (.inl l1), some (.inl l2), some (.inl l3), none, none] [] s := rfl
noncomputable def m_laysSums_b47_G (K57 : Sg → Int32 → Int32 → Int32 → Option Sg) (c_m_lastPlace : Sg → Option (Sg × Int32)) (s : Sg) (l1 : Int32) (l2 : Int32) : Option Sg :=
  (c_m_lastPlace s).bind fun q1 => (
  gif ((l2 : Int32) < q1.2) (
    K57 q1.1 l1 l2 0)
  (
    some q1.1))
noncomputable def m_laysSums_b47 : Nat → Sg → Int32 → Int32 → Option Sg
  | 0 => fun _ _ _ => none
  | n + 1 => m_laysSums_b47_G (m_laysSums_b57 (m_laysSums_b47 n) FU) m_lastPlace
noncomputable def t_m_laysSums_b47 (K57 : Sg → Int32 → Int32 → Int32 → Option Sg) (c_m_lastPlace : Sg → Option (Sg × Int32)) : Bk Sg := (s_ldI 2 (s_ldA 0 (s_call (FW_m_lastPlace c_m_lastPlace) 1 (s_clt
  (s_ic 0 (s_stI 3 (p_C 0 10 0 <| p_I 1 fun a1 => p_I 2 fun a2 => p_I 3 fun a3 => p_E fun s => K57 s a1 a2 a3)))
  (s_vret retV)))))
set_option maxRecDepth 20000 in
theorem e_m_laysSums_b47 (K57 : Sg → Int32 → Int32 → Int32 → Option Sg) (c_m_lastPlace : Sg → Option (Sg × Int32)) (s : Sg) (l1 : Int32) (l2 : Int32) : m_laysSums_b47_G K57 c_m_lastPlace s l1 l2 = t_m_laysSums_b47 K57 c_m_lastPlace [some (.inr (.inr (some (10, 0)))), some (.inl l1), some (.inl l2), none, none, none] [] s := rfl
noncomputable def m_laysSums_b2_G (K2 : Sg → Int32 → Int32 → Option Sg) (K47 : Sg → Int32 → Int32 → Option Sg) (c_m_stateAt : Sg → Int32 → Int32 → Option (Sg × Int32)) (s : Sg) (l1 : Int32) (l2 : Int32) : Option Sg :=
  gif ((l2 : Int32) < 625) (
    gif ((l1 : Int32) = 0) (
      gd (inb l2 625) (
      let s1 := wI s 64 0 (ix l2) 100000000
      K2 s1 l1 (l2 + 1)))
    (
      gd (inb l2 625) (
      let s2 := wI s 64 0 (ix l2) (-100000000)
      K2 s2 l1 (l2 + 1))))
  (
    (c_m_stateAt s 0 (-1)).bind fun q3 => (
    gd (inb q3.2 625) (
    let s4 := wI q3.1 64 0 (ix q3.2) 0
    K47 s4 l1 (-1))))
noncomputable def m_laysSums_b2 : Nat → Sg → Int32 → Int32 → Option Sg
  | 0 => fun _ _ _ => none
  | n + 1 => m_laysSums_b2_G (m_laysSums_b2 n) (m_laysSums_b47 FU) m_stateAt
noncomputable def t_m_laysSums_b2 (K2 : Sg → Int32 → Int32 → Option Sg) (K47 : Sg → Int32 → Int32 → Option Sg) (c_m_stateAt : Sg → Int32 → Int32 → Option (Sg × Int32)) : Bk Sg := (s_ldI 2 (s_ic 625 (s_clt
  (s_ldA 0 (s_getRc 10 50 64 0 (s_ldI 2 (s_ldI 1 (s_eq0
    (s_ic 100000000 (s_iast 64 625 (s_inc 2 1 (s_goto (p_C 0 10 0 <| p_I 1 fun a1 => p_I 2 fun a2 => p_E fun s => K2 s a1 a2)))))
    (s_ic (-100000000) (s_goto (s_iast 64 625 (s_inc 2 1 (s_goto (p_C 0 10 0 <| p_I 1 fun a1 => p_I 2 fun a2 => p_E fun s => K2 s a1 a2)))))))))))
  (s_ldA 0 (s_getRc 10 50 64 0 (s_ic 0 (s_ic (-1) (s_call (FW_m_stateAt c_m_stateAt) 2 (s_ic 0 (s_iast 64 625 (s_ic (-1) (s_stI 2 (p_C 0 10 0 <| p_I 1 fun a1 => p_I 2 fun a2 => p_E fun s => K47 s a1 a2)))))))))))))
set_option maxRecDepth 20000 in
theorem e_m_laysSums_b2 (K2 : Sg → Int32 → Int32 → Option Sg) (K47 : Sg → Int32 → Int32 → Option Sg) (c_m_stateAt : Sg → Int32 → Int32 → Option (Sg × Int32)) (s : Sg) (l1 : Int32) (l2 : Int32) : m_laysSums_b2_G K2 K47 c_m_stateAt s l1 l2 = t_m_laysSums_b2 K2 K47 c_m_stateAt [some (.inr (.inr (some (10, 0)))), some (.inl l1), some (.inl l2), none, none, none] [] s := rfl
noncomputable def m_laysSums_G (K2 : Sg → Int32 → Int32 → Option Sg) (s : Sg) (l1 : Int32) : Option Sg :=
  K2 s l1 0
noncomputable def m_laysSums : Sg → Int32 → Option Sg := m_laysSums_G (m_laysSums_b2 FU)
noncomputable def t_m_laysSums (K2 : Sg → Int32 → Int32 → Option Sg) : Bk Sg := (s_ic 0 (s_stI 2 (p_C 0 10 0 <| p_I 1 fun a1 => p_I 2 fun a2 => p_E fun s => K2 s a1 a2)))
set_option maxRecDepth 20000 in
theorem e_m_laysSums (K2 : Sg → Int32 → Int32 → Option Sg) (s : Sg) (l1 : Int32) : m_laysSums_G K2 s l1 = t_m_laysSums K2 [some (.inr (.inr (some (10, 0)))), some (.inl l1), none, none, none, none] [] s := rfl
noncomputable def m_laysCosts_G (c_m_laysLines : Sg → Int32 → Int32 → Option Sg) (c_m_laysSums : Sg → Int32 → Option Sg) (s : Sg) : Option Sg :=
  gd (inb 53 5665) (
  (c_m_laysLines s (rI s 43 0 (ix 53)) 1).bind fun s1 => (
  (c_m_laysSums s1 0).bind fun s2 => (
  some s2)))
noncomputable def m_laysCosts : Sg → Option Sg := m_laysCosts_G m_laysLines m_laysSums
noncomputable def t_m_laysCosts (c_m_laysLines : Sg → Int32 → Int32 → Option Sg) (c_m_laysSums : Sg → Int32 → Option Sg) : Bk Sg := (s_ldA 0 (s_ldA 0 (s_getRc 10 2 43 0 (s_ic 53 (s_iald 43 5665 (s_ic 1 (s_call (FW_m_laysLines c_m_laysLines) 3 (s_ldA 0 (s_ic 0 (s_call (FW_m_laysSums c_m_laysSums) 2 (s_vret retV)))))))))))
set_option maxRecDepth 20000 in
theorem e_m_laysCosts (c_m_laysLines : Sg → Int32 → Int32 → Option Sg) (c_m_laysSums : Sg → Int32 → Option Sg) (s : Sg) : m_laysCosts_G c_m_laysLines c_m_laysSums s = t_m_laysCosts c_m_laysLines c_m_laysSums [some (.inr (.inr (some (10, 0))))] [] s := rfl
noncomputable def m_costsBy_G (c_m_lastPlace : Sg → Option (Sg × Int32)) (c_m_stateAt : Sg → Int32 → Int32 → Option (Sg × Int32)) (s : Sg) (l1 : Int32) : Option (Sg × Int32) :=
  (c_m_lastPlace s).bind fun q1 => (
  (c_m_stateAt q1.1 l1 q1.2).bind fun q2 => (
  gd (inb q2.2 625) (
  some (q2.1, (rI q2.1 64 0 (ix q2.2))))))
noncomputable def m_costsBy : Sg → Int32 → Option (Sg × Int32) := m_costsBy_G m_lastPlace m_stateAt
noncomputable def t_m_costsBy (c_m_lastPlace : Sg → Option (Sg × Int32)) (c_m_stateAt : Sg → Int32 → Int32 → Option (Sg × Int32)) : Bk (Sg × Int32) := (s_ldA 0 (s_getRc 10 50 64 0 (s_ldI 1 (s_ldA 0 (s_call (FW_m_lastPlace c_m_lastPlace) 1 (s_call (FW_m_stateAt c_m_stateAt) 2 (s_iald 64 625 (s_iret retI))))))))
set_option maxRecDepth 20000 in
theorem e_m_costsBy (c_m_lastPlace : Sg → Option (Sg × Int32)) (c_m_stateAt : Sg → Int32 → Int32 → Option (Sg × Int32)) (s : Sg) (l1 : Int32) : m_costsBy_G c_m_lastPlace c_m_stateAt s l1 = t_m_costsBy c_m_lastPlace c_m_stateAt [some (.inr (.inr (some (10, 0)))), some (.inl l1)] [] s := rfl
noncomputable def m_just_G (c_m_lies : Sg → Int32 → Int32 → Int32 → Option (Sg × Int32)) (c_m_laysCosts : Sg → Option Sg) (c_m_costsBy : Sg → Int32 → Option (Sg × Int32)) (s : Sg) (l1 : Int32) : Option (Sg × Int32) :=
  (c_m_lies s l1 0 24).bind fun q1 => (
  gif ((q1.2 : Int32) = 0) (
    some (q1.1, (-1)))
  (
    (c_m_laysCosts q1.1).bind fun s2 => (
    (c_m_costsBy s2 l1).bind fun q3 => (
    gif ((q3.2 : Int32) = 100000000) (
      some (q3.1, (-1)))
    (
      (c_m_costsBy q3.1 l1).bind fun q4 => (
      some (q4.1, q4.2)))))))
noncomputable def m_just : Sg → Int32 → Option (Sg × Int32) := m_just_G m_lies m_laysCosts m_costsBy
noncomputable def t_m_just (c_m_lies : Sg → Int32 → Int32 → Int32 → Option (Sg × Int32)) (c_m_laysCosts : Sg → Option Sg) (c_m_costsBy : Sg → Int32 → Option (Sg × Int32)) : Bk (Sg × Int32) := (s_ldI 1 (s_ic 0 (s_ic 24 (s_call (FW_m_lies c_m_lies) 3 (s_eq0
  (s_ic (-1) (s_iret retI))
  (s_ldA 0 (s_call (FW_m_laysCosts c_m_laysCosts) 1 (s_ldA 0 (s_ldI 1 (s_call (FW_m_costsBy c_m_costsBy) 2 (s_ic 100000000 (s_ceq
    (s_ic (-1) (s_goto (s_iret retI)))
    (s_ldA 0 (s_ldI 1 (s_call (FW_m_costsBy c_m_costsBy) 2 (s_iret retI))))))))))))))))
set_option maxRecDepth 20000 in
theorem e_m_just (c_m_lies : Sg → Int32 → Int32 → Int32 → Option (Sg × Int32)) (c_m_laysCosts : Sg → Option Sg) (c_m_costsBy : Sg → Int32 → Option (Sg × Int32)) (s : Sg) (l1 : Int32) : m_just_G c_m_lies c_m_laysCosts c_m_costsBy s l1 = t_m_just c_m_lies c_m_laysCosts c_m_costsBy [some (.inr (.inr (some (10, 0)))), some (.inl l1)] [] s := rfl
noncomputable def m_fewest_b6_G (K6 : Sg → Int32 → Option (Sg × Int32)) (c_m_costsBy : Sg → Int32 → Option (Sg × Int32)) (s : Sg) (l1 : Int32) : Option (Sg × Int32) :=
  gif ((24 : Int32) < l1) (
    some (s, (-1)))
  (
    (c_m_costsBy s l1).bind fun q1 => (
    gif ((q1.2 : Int32) = 100000000) (
      K6 q1.1 (l1 + 1))
    (
      some (q1.1, l1))))
noncomputable def m_fewest_b6 : Nat → Sg → Int32 → Option (Sg × Int32)
  | 0 => fun _ _ => none
  | n + 1 => m_fewest_b6_G (m_fewest_b6 n) m_costsBy
noncomputable def t_m_fewest_b6 (K6 : Sg → Int32 → Option (Sg × Int32)) (c_m_costsBy : Sg → Int32 → Option (Sg × Int32)) : Bk (Sg × Int32) := (s_ldI 1 (s_ic 24 (s_cgt
  (s_ic (-1) (s_iret retI))
  (s_ldA 0 (s_ldI 1 (s_call (FW_m_costsBy c_m_costsBy) 2 (s_ic 100000000 (s_ceq
    (s_inc 1 1 (s_goto (p_C 0 10 0 <| p_I 1 fun a1 => p_E fun s => K6 s a1)))
    (s_ldI 1 (s_iret retI))))))))))
set_option maxRecDepth 20000 in
theorem e_m_fewest_b6 (K6 : Sg → Int32 → Option (Sg × Int32)) (c_m_costsBy : Sg → Int32 → Option (Sg × Int32)) (s : Sg) (l1 : Int32) : m_fewest_b6_G K6 c_m_costsBy s l1 = t_m_fewest_b6 K6 c_m_costsBy [some (.inr (.inr (some (10, 0)))), some (.inl l1)] [] s := rfl
noncomputable def m_fewest_G (K6 : Sg → Int32 → Option (Sg × Int32)) (c_m_laysCosts : Sg → Option Sg) (s : Sg) : Option (Sg × Int32) :=
  (c_m_laysCosts s).bind fun s1 => (
  K6 s1 0)
noncomputable def m_fewest : Sg → Option (Sg × Int32) := m_fewest_G (m_fewest_b6 FU) m_laysCosts
noncomputable def t_m_fewest (K6 : Sg → Int32 → Option (Sg × Int32)) (c_m_laysCosts : Sg → Option Sg) : Bk (Sg × Int32) := (s_ldA 0 (s_call (FW_m_laysCosts c_m_laysCosts) 1 (s_ic 0 (s_stI 1 (p_C 0 10 0 <| p_I 1 fun a1 => p_E fun s => K6 s a1)))))
set_option maxRecDepth 20000 in
theorem e_m_fewest (K6 : Sg → Int32 → Option (Sg × Int32)) (c_m_laysCosts : Sg → Option Sg) (s : Sg) : m_fewest_G K6 c_m_laysCosts s = t_m_fewest K6 c_m_laysCosts [some (.inr (.inr (some (10, 0)))), none] [] s := rfl
noncomputable def m_most_b7_G (K7 : Sg → Int32 → Option (Sg × Int32)) (c_m_costsBy : Sg → Int32 → Option (Sg × Int32)) (s : Sg) (l1 : Int32) : Option (Sg × Int32) :=
  gif ((l1 : Int32) < 0) (
    some (s, (-1)))
  (
    (c_m_costsBy s l1).bind fun q1 => (
    gif ((q1.2 : Int32) = 100000000) (
      K7 q1.1 (l1 + (-1)))
    (
      some (q1.1, l1))))
noncomputable def m_most_b7 : Nat → Sg → Int32 → Option (Sg × Int32)
  | 0 => fun _ _ => none
  | n + 1 => m_most_b7_G (m_most_b7 n) m_costsBy
noncomputable def t_m_most_b7 (K7 : Sg → Int32 → Option (Sg × Int32)) (c_m_costsBy : Sg → Int32 → Option (Sg × Int32)) : Bk (Sg × Int32) := (s_ldI 1 (s_lt0
  (s_ic (-1) (s_iret retI))
  (s_ldA 0 (s_ldI 1 (s_call (FW_m_costsBy c_m_costsBy) 2 (s_ic 100000000 (s_ceq
    (s_inc 1 (-1) (s_goto (p_C 0 10 0 <| p_I 1 fun a1 => p_E fun s => K7 s a1)))
    (s_ldI 1 (s_iret retI)))))))))
set_option maxRecDepth 20000 in
theorem e_m_most_b7 (K7 : Sg → Int32 → Option (Sg × Int32)) (c_m_costsBy : Sg → Int32 → Option (Sg × Int32)) (s : Sg) (l1 : Int32) : m_most_b7_G K7 c_m_costsBy s l1 = t_m_most_b7 K7 c_m_costsBy [some (.inr (.inr (some (10, 0)))), some (.inl l1)] [] s := rfl
noncomputable def m_most_G (K7 : Sg → Int32 → Option (Sg × Int32)) (c_m_laysCosts : Sg → Option Sg) (s : Sg) : Option (Sg × Int32) :=
  (c_m_laysCosts s).bind fun s1 => (
  K7 s1 24)
noncomputable def m_most : Sg → Option (Sg × Int32) := m_most_G (m_most_b7 FU) m_laysCosts
noncomputable def t_m_most (K7 : Sg → Int32 → Option (Sg × Int32)) (c_m_laysCosts : Sg → Option Sg) : Bk (Sg × Int32) := (s_ldA 0 (s_call (FW_m_laysCosts c_m_laysCosts) 1 (s_ic 24 (s_stI 1 (p_C 0 10 0 <| p_I 1 fun a1 => p_E fun s => K7 s a1)))))
set_option maxRecDepth 20000 in
theorem e_m_most (K7 : Sg → Int32 → Option (Sg × Int32)) (c_m_laysCosts : Sg → Option Sg) (s : Sg) : m_most_G K7 c_m_laysCosts s = t_m_most K7 c_m_laysCosts [some (.inr (.inr (some (10, 0)))), none] [] s := rfl
noncomputable def m_ways_b141_G (K141 : Sg → Int64 → Int32 → Option (Sg × Int64)) (c_m_lastPlace : Sg → Option (Sg × Int32)) (c_m_stateAt : Sg → Int32 → Int32 → Option (Sg × Int32)) (s : Sg) (l1 : Int64) (l3 : Int32) : Option (Sg × Int64) :=
  gif ((24 : Int32) < l3) (
    some (s, l1))
  (
    (c_m_lastPlace s).bind fun q1 => (
    (c_m_stateAt q1.1 l3 q1.2).bind fun q2 => (
    gd (inb q2.2 625) (
    K141 q2.1 (l1 + (rL q2.1 65 0 (ix q2.2))) (l3 + 1)))))
noncomputable def m_ways_b141 : Nat → Sg → Int64 → Int32 → Option (Sg × Int64)
  | 0 => fun _ _ _ => none
  | n + 1 => m_ways_b141_G (m_ways_b141 n) m_lastPlace m_stateAt
noncomputable def t_m_ways_b141 (K141 : Sg → Int64 → Int32 → Option (Sg × Int64)) (c_m_lastPlace : Sg → Option (Sg × Int32)) (c_m_stateAt : Sg → Int32 → Int32 → Option (Sg × Int32)) : Bk (Sg × Int64) := (s_ldI 3 (s_ic 24 (s_cgt
  (s_ldL 1 (s_lret retL))
  (s_ldL 1 (s_ldA 0 (s_getRc 10 51 65 0 (s_ldI 3 (s_ldA 0 (s_call (FW_m_lastPlace c_m_lastPlace) 1 (s_call (FW_m_stateAt c_m_stateAt) 2 (s_lald 65 625 (s_lbin (fun x y => x + y) (s_stL 1 (s_inc 3 1 (s_goto (p_C 0 10 0 <| p_L 1 fun a1 => p_I 3 fun a3 => p_E fun s => K141 s a1 a3))))))))))))))))
set_option maxRecDepth 20000 in
theorem e_m_ways_b141 (K141 : Sg → Int64 → Int32 → Option (Sg × Int64)) (c_m_lastPlace : Sg → Option (Sg × Int32)) (c_m_stateAt : Sg → Int32 → Int32 → Option (Sg × Int32)) (s : Sg) (l1 : Int64) (l3 : Int32) : m_ways_b141_G K141 c_m_lastPlace c_m_stateAt s l1 l3 = t_m_ways_b141 K141 c_m_lastPlace c_m_stateAt [some (.inr (.inr (some (10, 0)))), some (.inr (.inl l1)), none, some (.inl l3)] [] s := rfl
noncomputable def m_ways_b76_G (K57 : Sg → Int32 → Int32 → Option (Sg × Int64)) (K76 : Sg → Int32 → Int32 → Int32 → Option (Sg × Int64)) (c_m_lastPlace : Sg → Option (Sg × Int32)) (c_m_canLine : Sg → Int32 → Int32 → Int32 → Option (Sg × Int32)) (c_m_stateAt : Sg → Int32 → Int32 → Option (Sg × Int32)) (s : Sg) (l1 : Int32) (l2 : Int32) (l3 : Int32) : Option (Sg × Int64) :=
  (c_m_lastPlace s).bind fun q1 => (
  gif ((q1.2 : Int32) < l3) (
    K57 q1.1 l1 (l2 + 1))
  (
    (c_m_canLine q1.1 l2 l1 l3).bind fun q2 => (
    gif ((q2.2 : Int32) = 0) (
      K76 q2.1 l1 l2 (l3 + 1))
    (
      (c_m_stateAt q2.1 (l2 + 1) l3).bind fun q3 => (
      gd (inb q3.2 625) (
      (c_m_stateAt q3.1 l2 l1).bind fun q4 => (
      gd (inb q4.2 625) (
      gd (inb q3.2 625) (
      let s5 := wL q4.1 65 0 (ix q3.2) ((rL q3.1 65 0 (ix q3.2)) + (rL q4.1 65 0 (ix q4.2)))
      K76 s5 l1 l2 (l3 + 1))))))))))
noncomputable def m_ways_b76 (K47 : Sg → Int32 → Option (Sg × Int64)) (K57 : Sg → Int32 → Int32 → Option (Sg × Int64)) : Nat → Sg → Int32 → Int32 → Int32 → Option (Sg × Int64)
  | 0 => fun _ _ _ _ => none
  | n + 1 => m_ways_b76_G K57 (m_ways_b76 K47 K57 n) m_lastPlace m_canLine m_stateAt
noncomputable def t_m_ways_b76 (K57 : Sg → Int32 → Int32 → Option (Sg × Int64)) (K76 : Sg → Int32 → Int32 → Int32 → Option (Sg × Int64)) (c_m_lastPlace : Sg → Option (Sg × Int32)) (c_m_canLine : Sg → Int32 → Int32 → Int32 → Option (Sg × Int32)) (c_m_stateAt : Sg → Int32 → Int32 → Option (Sg × Int32)) : Bk (Sg × Int64) := (s_ldI 3 (s_ldA 0 (s_call (FW_m_lastPlace c_m_lastPlace) 1 (s_cgt
  (s_inc 2 1 (s_goto (p_C 0 10 0 <| p_I 1 fun a1 => p_I 2 fun a2 => p_E fun s => K57 s a1 a2)))
  (s_ldA 0 (s_ldI 2 (s_ldI 1 (s_ldI 3 (s_call (FW_m_canLine c_m_canLine) 4 (s_eq0
    (s_inc 3 1 (s_goto (p_C 0 10 0 <| p_I 1 fun a1 => p_I 2 fun a2 => p_I 3 fun a3 => p_E fun s => K76 s a1 a2 a3)))
    (s_ldA 0 (s_getRc 10 51 65 0 (s_ldI 2 (s_ic 1 (s_bin (fun x y => x + y) (s_ldI 3 (s_call (FW_m_stateAt c_m_stateAt) 2 (s_dup2 (s_lald 65 625 (s_ldA 0 (s_getRc 10 51 65 0 (s_ldI 2 (s_ldI 1 (s_call (FW_m_stateAt c_m_stateAt) 2 (s_lald 65 625 (s_lbin (fun x y => x + y) (s_last 65 625 (s_inc 3 1 (s_goto (p_C 0 10 0 <| p_I 1 fun a1 => p_I 2 fun a2 => p_I 3 fun a3 => p_E fun s => K76 s a1 a2 a3))))))))))))))))))))))))))))))
set_option maxRecDepth 20000 in
theorem e_m_ways_b76 (K57 : Sg → Int32 → Int32 → Option (Sg × Int64)) (K76 : Sg → Int32 → Int32 → Int32 → Option (Sg × Int64)) (c_m_lastPlace : Sg → Option (Sg × Int32)) (c_m_canLine : Sg → Int32 → Int32 → Int32 → Option (Sg × Int32)) (c_m_stateAt : Sg → Int32 → Int32 → Option (Sg × Int32)) (s : Sg) (l1 : Int32) (l2 : Int32) (l3 : Int32) : m_ways_b76_G K57 K76 c_m_lastPlace c_m_canLine c_m_stateAt s l1 l2 l3 = t_m_ways_b76 K57 K76 c_m_lastPlace c_m_canLine c_m_stateAt [some (.inr (.inr (some (10, 0)))), some (.inl l1), some (.inl l2), some (.inl l3)] [] s := rfl
noncomputable def m_ways_b57_G (K47 : Sg → Int32 → Option (Sg × Int64)) (K76 : Sg → Int32 → Int32 → Int32 → Option (Sg × Int64)) (c_m_isStart : Sg → Int32 → Option (Sg × Int32)) (s : Sg) (l1 : Int32) (l2 : Int32) : Option (Sg × Int64) :=
  gif (((l1 + 1) : Int32) < l2) (
    K47 s (l1 + 1))
  (
    (c_m_isStart s l1).bind fun q1 => (
    gif ((q1.2 : Int32) = 0) (
      K47 q1.1 (l1 + 1))
    (
      K76 q1.1 l1 l2 (l1 + 1))))
noncomputable def m_ways_b57 (K47 : Sg → Int32 → Option (Sg × Int64)) : Nat → Sg → Int32 → Int32 → Option (Sg × Int64)
  | 0 => fun _ _ _ => none
  | n + 1 => m_ways_b57_G K47 (m_ways_b76 K47 (m_ways_b57 K47 n) FU) m_isStart
noncomputable def t_m_ways_b57 (K47 : Sg → Int32 → Option (Sg × Int64)) (K76 : Sg → Int32 → Int32 → Int32 → Option (Sg × Int64)) (c_m_isStart : Sg → Int32 → Option (Sg × Int32)) : Bk (Sg × Int64) := (s_ldI 2 (s_ldI 1 (s_ic 1 (s_bin (fun x y => x + y) (s_cgt
  (s_inc 1 1 (s_goto (p_C 0 10 0 <| p_I 1 fun a1 => p_E fun s => K47 s a1)))
  (s_ldA 0 (s_ldI 1 (s_call (FW_m_isStart c_m_isStart) 2 (s_eq0
    (s_inc 1 1 (s_goto (p_C 0 10 0 <| p_I 1 fun a1 => p_E fun s => K47 s a1)))
    (s_ldI 1 (s_ic 1 (s_bin (fun x y => x + y) (s_stI 3 (p_C 0 10 0 <| p_I 1 fun a1 => p_I 2 fun a2 => p_I 3 fun a3 => p_E fun s => K76 s a1 a2 a3))))))))))))))
set_option maxRecDepth 20000 in
theorem e_m_ways_b57 (K47 : Sg → Int32 → Option (Sg × Int64)) (K76 : Sg → Int32 → Int32 → Int32 → Option (Sg × Int64)) (c_m_isStart : Sg → Int32 → Option (Sg × Int32)) (s : Sg) (l1 : Int32) (l2 : Int32) : m_ways_b57_G K47 K76 c_m_isStart s l1 l2 = t_m_ways_b57 K47 K76 c_m_isStart [some (.inr (.inr (some (10, 0)))), some (.inl l1), some (.inl l2), none] [] s := rfl
noncomputable def m_ways_b47_G (K57 : Sg → Int32 → Int32 → Option (Sg × Int64)) (K141 : Sg → Int64 → Int32 → Option (Sg × Int64)) (c_m_lastPlace : Sg → Option (Sg × Int32)) (s : Sg) (l1 : Int32) : Option (Sg × Int64) :=
  (c_m_lastPlace s).bind fun q1 => (
  gif ((l1 : Int32) < q1.2) (
    K57 q1.1 l1 0)
  (
    K141 q1.1 0 0))
noncomputable def m_ways_b47 : Nat → Sg → Int32 → Option (Sg × Int64)
  | 0 => fun _ _ => none
  | n + 1 => m_ways_b47_G (m_ways_b57 (m_ways_b47 n) FU) (m_ways_b141 FU) m_lastPlace
noncomputable def t_m_ways_b47 (K57 : Sg → Int32 → Int32 → Option (Sg × Int64)) (K141 : Sg → Int64 → Int32 → Option (Sg × Int64)) (c_m_lastPlace : Sg → Option (Sg × Int32)) : Bk (Sg × Int64) := (s_ldI 1 (s_ldA 0 (s_call (FW_m_lastPlace c_m_lastPlace) 1 (s_clt
  (s_ic 0 (s_stI 2 (p_C 0 10 0 <| p_I 1 fun a1 => p_I 2 fun a2 => p_E fun s => K57 s a1 a2)))
  (s_lc 0 (s_stL 1 (s_ic 0 (s_stI 3 (p_C 0 10 0 <| p_L 1 fun a1 => p_I 3 fun a3 => p_E fun s => K141 s a1 a3)))))))))
set_option maxRecDepth 20000 in
theorem e_m_ways_b47 (K57 : Sg → Int32 → Int32 → Option (Sg × Int64)) (K141 : Sg → Int64 → Int32 → Option (Sg × Int64)) (c_m_lastPlace : Sg → Option (Sg × Int32)) (s : Sg) (l1 : Int32) : m_ways_b47_G K57 K141 c_m_lastPlace s l1 = t_m_ways_b47 K57 K141 c_m_lastPlace [some (.inr (.inr (some (10, 0)))), some (.inl l1), none, none] [] s := rfl
noncomputable def m_ways_b14_G (K14 : Sg → Int32 → Option (Sg × Int64)) (K47 : Sg → Int32 → Option (Sg × Int64)) (c_m_stateAt : Sg → Int32 → Int32 → Option (Sg × Int32)) (s : Sg) (l1 : Int32) : Option (Sg × Int64) :=
  gif ((l1 : Int32) < 625) (
    gd (inb l1 625) (
    let s1 := wL s 65 0 (ix l1) 0
    K14 s1 (l1 + 1)))
  (
    (c_m_stateAt s 0 (-1)).bind fun q2 => (
    gd (inb q2.2 625) (
    let s3 := wL q2.1 65 0 (ix q2.2) 1
    K47 s3 (-1))))
noncomputable def m_ways_b14 : Nat → Sg → Int32 → Option (Sg × Int64)
  | 0 => fun _ _ => none
  | n + 1 => m_ways_b14_G (m_ways_b14 n) (m_ways_b47 FU) m_stateAt
noncomputable def t_m_ways_b14 (K14 : Sg → Int32 → Option (Sg × Int64)) (K47 : Sg → Int32 → Option (Sg × Int64)) (c_m_stateAt : Sg → Int32 → Int32 → Option (Sg × Int32)) : Bk (Sg × Int64) := (s_ldI 1 (s_ic 625 (s_clt
  (s_ldA 0 (s_getRc 10 51 65 0 (s_ldI 1 (s_lc 0 (s_last 65 625 (s_inc 1 1 (s_goto (p_C 0 10 0 <| p_I 1 fun a1 => p_E fun s => K14 s a1))))))))
  (s_ldA 0 (s_getRc 10 51 65 0 (s_ic 0 (s_ic (-1) (s_call (FW_m_stateAt c_m_stateAt) 2 (s_lc 1 (s_last 65 625 (s_ic (-1) (s_stI 1 (p_C 0 10 0 <| p_I 1 fun a1 => p_E fun s => K47 s a1)))))))))))))
set_option maxRecDepth 20000 in
theorem e_m_ways_b14 (K14 : Sg → Int32 → Option (Sg × Int64)) (K47 : Sg → Int32 → Option (Sg × Int64)) (c_m_stateAt : Sg → Int32 → Int32 → Option (Sg × Int32)) (s : Sg) (l1 : Int32) : m_ways_b14_G K14 K47 c_m_stateAt s l1 = t_m_ways_b14 K14 K47 c_m_stateAt [some (.inr (.inr (some (10, 0)))), some (.inl l1), none, none] [] s := rfl
noncomputable def m_ways_G (K14 : Sg → Int32 → Option (Sg × Int64)) (c_m_laysLines : Sg → Int32 → Int32 → Option Sg) (s : Sg) : Option (Sg × Int64) :=
  gd (inb 53 5665) (
  (c_m_laysLines s (rI s 43 0 (ix 53)) 0).bind fun s1 => (
  K14 s1 0))
noncomputable def m_ways : Sg → Option (Sg × Int64) := m_ways_G (m_ways_b14 FU) m_laysLines
noncomputable def t_m_ways (K14 : Sg → Int32 → Option (Sg × Int64)) (c_m_laysLines : Sg → Int32 → Int32 → Option Sg) : Bk (Sg × Int64) := (s_ldA 0 (s_ldA 0 (s_getRc 10 2 43 0 (s_ic 53 (s_iald 43 5665 (s_ic 0 (s_call (FW_m_laysLines c_m_laysLines) 3 (s_ic 0 (s_stI 1 (p_C 0 10 0 <| p_I 1 fun a1 => p_E fun s => K14 s a1))))))))))
set_option maxRecDepth 20000 in
theorem e_m_ways (K14 : Sg → Int32 → Option (Sg × Int64)) (c_m_laysLines : Sg → Int32 → Int32 → Option Sg) (s : Sg) : m_ways_G K14 c_m_laysLines s = t_m_ways K14 c_m_laysLines [some (.inr (.inr (some (10, 0)))), none, none, none] [] s := rfl
noncomputable def m_richest_b23_G (K23 : Sg → Int32 → Int32 → Option (Sg × Int32)) (c_m_costsBy : Sg → Int32 → Option (Sg × Int32)) (c_m_greater : Sg → Int32 → Int32 → Option (Sg × Int32)) (s : Sg) (l1 : Int32) (l2 : Int32) : Option (Sg × Int32) :=
  gif ((24 : Int32) < l2) (
    gif ((l1 : Int32) = (-100000000)) (
      some (s, (-1)))
    (
      some (s, l1)))
  (
    (c_m_costsBy s l2).bind fun q1 => (
    (c_m_greater q1.1 l1 q1.2).bind fun q2 => (
    K23 q2.1 q2.2 (l2 + 1))))
noncomputable def m_richest_b23 : Nat → Sg → Int32 → Int32 → Option (Sg × Int32)
  | 0 => fun _ _ _ => none
  | n + 1 => m_richest_b23_G (m_richest_b23 n) m_costsBy m_greater
noncomputable def t_m_richest_b23 (K23 : Sg → Int32 → Int32 → Option (Sg × Int32)) (c_m_costsBy : Sg → Int32 → Option (Sg × Int32)) (c_m_greater : Sg → Int32 → Int32 → Option (Sg × Int32)) : Bk (Sg × Int32) := (s_ldI 2 (s_ic 24 (s_cgt
  (s_ldI 1 (s_ic (-100000000) (s_ceq
    (s_ic (-1) (s_goto (s_iret retI)))
    (s_ldI 1 (s_iret retI)))))
  (s_ldI 1 (s_ldA 0 (s_ldI 2 (s_call (FW_m_costsBy c_m_costsBy) 2 (s_call (FW_m_greater c_m_greater) 2 (s_stI 1 (s_inc 2 1 (s_goto (p_C 0 10 0 <| p_I 1 fun a1 => p_I 2 fun a2 => p_E fun s => K23 s a1 a2))))))))))))
set_option maxRecDepth 20000 in
theorem e_m_richest_b23 (K23 : Sg → Int32 → Int32 → Option (Sg × Int32)) (c_m_costsBy : Sg → Int32 → Option (Sg × Int32)) (c_m_greater : Sg → Int32 → Int32 → Option (Sg × Int32)) (s : Sg) (l1 : Int32) (l2 : Int32) : m_richest_b23_G K23 c_m_costsBy c_m_greater s l1 l2 = t_m_richest_b23 K23 c_m_costsBy c_m_greater [some (.inr (.inr (some (10, 0)))), some (.inl l1), some (.inl l2)] [] s := rfl
noncomputable def m_richest_G (K23 : Sg → Int32 → Int32 → Option (Sg × Int32)) (c_m_laysLines : Sg → Int32 → Int32 → Option Sg) (c_m_laysSums : Sg → Int32 → Option Sg) (s : Sg) : Option (Sg × Int32) :=
  gd (inb 53 5665) (
  (c_m_laysLines s (rI s 43 0 (ix 53)) 1).bind fun s1 => (
  (c_m_laysSums s1 1).bind fun s2 => (
  K23 s2 (-100000000) 0)))
noncomputable def m_richest : Sg → Option (Sg × Int32) := m_richest_G (m_richest_b23 FU) m_laysLines m_laysSums
noncomputable def t_m_richest (K23 : Sg → Int32 → Int32 → Option (Sg × Int32)) (c_m_laysLines : Sg → Int32 → Int32 → Option Sg) (c_m_laysSums : Sg → Int32 → Option Sg) : Bk (Sg × Int32) := (s_ldA 0 (s_ldA 0 (s_getRc 10 2 43 0 (s_ic 53 (s_iald 43 5665 (s_ic 1 (s_call (FW_m_laysLines c_m_laysLines) 3 (s_ldA 0 (s_ic 1 (s_call (FW_m_laysSums c_m_laysSums) 2 (s_ic (-100000000) (s_stI 1 (s_ic 0 (s_stI 2 (p_C 0 10 0 <| p_I 1 fun a1 => p_I 2 fun a2 => p_E fun s => K23 s a1 a2)))))))))))))))
set_option maxRecDepth 20000 in
theorem e_m_richest (K23 : Sg → Int32 → Int32 → Option (Sg × Int32)) (c_m_laysLines : Sg → Int32 → Int32 → Option Sg) (c_m_laysSums : Sg → Int32 → Option Sg) (s : Sg) : m_richest_G K23 c_m_laysLines c_m_laysSums s = t_m_richest K23 c_m_laysLines c_m_laysSums [some (.inr (.inr (some (10, 0)))), none, none] [] s := rfl
noncomputable def m_isBy_b142_G (K142 : Sg → Int32 → Int32 → Int32 → Option (Sg × Int32)) (c_m_lastPlace : Sg → Option (Sg × Int32)) (c_m_stateAt : Sg → Int32 → Int32 → Option (Sg × Int32)) (s : Sg) (l1 : Int32) (l2 : Int32) (l3 : Int32) : Option (Sg × Int32) :=
  gif ((l1 : Int32) < l3) (
    gd (isB l2) (some (s, l2)))
  (
    gif ((l2 : Int32) = 0) (
      (c_m_lastPlace s).bind fun q1 => (
      (c_m_stateAt q1.1 l3 q1.2).bind fun q2 => (
      gd (inb q2.2 625) (
      gif (((rI q2.1 66 0 (ix q2.2)) : Int32) = 0) (
        K142 q2.1 l1 0 (l3 + 1))
      (
        K142 q2.1 l1 1 (l3 + 1))))))
    (
      K142 s l1 1 (l3 + 1)))
noncomputable def m_isBy_b142 : Nat → Sg → Int32 → Int32 → Int32 → Option (Sg × Int32)
  | 0 => fun _ _ _ _ => none
  | n + 1 => m_isBy_b142_G (m_isBy_b142 n) m_lastPlace m_stateAt
noncomputable def t_m_isBy_b142 (K142 : Sg → Int32 → Int32 → Int32 → Option (Sg × Int32)) (c_m_lastPlace : Sg → Option (Sg × Int32)) (c_m_stateAt : Sg → Int32 → Int32 → Option (Sg × Int32)) : Bk (Sg × Int32) := (s_ldI 3 (s_ldI 1 (s_cgt
  (s_ldI 2 (s_zret retI))
  (s_ldI 2 (s_eq0
    (s_ldA 0 (s_getRc 10 52 66 0 (s_ldI 3 (s_ldA 0 (s_call (FW_m_lastPlace c_m_lastPlace) 1 (s_call (FW_m_stateAt c_m_stateAt) 2 (s_bald 66 625 (s_eq0
      (s_ic 0 (s_stI 2 (s_inc 3 1 (s_goto (p_C 0 10 0 <| p_I 1 fun a1 => p_I 2 fun a2 => p_I 3 fun a3 => p_E fun s => K142 s a1 a2 a3)))))
      (s_ic 1 (s_goto (s_stI 2 (s_inc 3 1 (s_goto (p_C 0 10 0 <| p_I 1 fun a1 => p_I 2 fun a2 => p_I 3 fun a3 => p_E fun s => K142 s a1 a2 a3))))))))))))))
    (s_ic 1 (s_goto (s_stI 2 (s_inc 3 1 (s_goto (p_C 0 10 0 <| p_I 1 fun a1 => p_I 2 fun a2 => p_I 3 fun a3 => p_E fun s => K142 s a1 a2 a3)))))))))))
set_option maxRecDepth 20000 in
theorem e_m_isBy_b142 (K142 : Sg → Int32 → Int32 → Int32 → Option (Sg × Int32)) (c_m_lastPlace : Sg → Option (Sg × Int32)) (c_m_stateAt : Sg → Int32 → Int32 → Option (Sg × Int32)) (s : Sg) (l1 : Int32) (l2 : Int32) (l3 : Int32) : m_isBy_b142_G K142 c_m_lastPlace c_m_stateAt s l1 l2 l3 = t_m_isBy_b142 K142 c_m_lastPlace c_m_stateAt [some (.inr (.inr (some (10, 0)))), some (.inl l1), some (.inl l2), some (.inl l3), none] [] s := rfl
noncomputable def m_isBy_b86_G (K45 : Sg → Int32 → Int32 → Int32 → Option (Sg × Int32)) (K86 : Sg → Int32 → Int32 → Int32 → Int32 → Option (Sg × Int32)) (c_m_lastPlace : Sg → Option (Sg × Int32)) (c_m_canLine : Sg → Int32 → Int32 → Int32 → Option (Sg × Int32)) (c_m_stateAt : Sg → Int32 → Int32 → Option (Sg × Int32)) (s : Sg) (l1 : Int32) (l2 : Int32) (l3 : Int32) (l4 : Int32) : Option (Sg × Int32) :=
  (c_m_lastPlace s).bind fun q1 => (
  gif ((q1.2 : Int32) < l4) (
    K45 q1.1 l1 l2 (l3 + 1))
  (
    (c_m_canLine q1.1 l3 l2 l4).bind fun q2 => (
    gif ((q2.2 : Int32) = 0) (
      K86 q2.1 l1 l2 l3 (l4 + 1))
    (
      (c_m_stateAt q2.1 (l3 + 1) l4).bind fun q3 => (
      gd (inb q3.2 625) (
      let s4 := wI q3.1 66 0 (ix q3.2) (vp_nar .boolean 1)
      K86 s4 l1 l2 l3 (l4 + 1)))))))
noncomputable def m_isBy_b86 (K35 : Sg → Int32 → Int32 → Option (Sg × Int32)) (K45 : Sg → Int32 → Int32 → Int32 → Option (Sg × Int32)) : Nat → Sg → Int32 → Int32 → Int32 → Int32 → Option (Sg × Int32)
  | 0 => fun _ _ _ _ _ => none
  | n + 1 => m_isBy_b86_G K45 (m_isBy_b86 K35 K45 n) m_lastPlace m_canLine m_stateAt
noncomputable def t_m_isBy_b86 (K45 : Sg → Int32 → Int32 → Int32 → Option (Sg × Int32)) (K86 : Sg → Int32 → Int32 → Int32 → Int32 → Option (Sg × Int32)) (c_m_lastPlace : Sg → Option (Sg × Int32)) (c_m_canLine : Sg → Int32 → Int32 → Int32 → Option (Sg × Int32)) (c_m_stateAt : Sg → Int32 → Int32 → Option (Sg × Int32)) : Bk (Sg × Int32) := (s_ldI 4 (s_ldA 0 (s_call (FW_m_lastPlace c_m_lastPlace) 1 (s_cgt
  (s_inc 3 1 (s_goto (p_C 0 10 0 <| p_I 1 fun a1 => p_I 2 fun a2 => p_I 3 fun a3 => p_E fun s => K45 s a1 a2 a3)))
  (s_ldA 0 (s_ldI 3 (s_ldI 2 (s_ldI 4 (s_call (FW_m_canLine c_m_canLine) 4 (s_eq0
    (s_inc 4 1 (s_goto (p_C 0 10 0 <| p_I 1 fun a1 => p_I 2 fun a2 => p_I 3 fun a3 => p_I 4 fun a4 => p_E fun s => K86 s a1 a2 a3 a4)))
    (s_ldA 0 (s_getRc 10 52 66 0 (s_ldI 3 (s_ic 1 (s_bin (fun x y => x + y) (s_ldI 4 (s_call (FW_m_stateAt c_m_stateAt) 2 (s_ic 1 (s_bast .boolean 66 625 (s_inc 4 1 (s_goto (p_C 0 10 0 <| p_I 1 fun a1 => p_I 2 fun a2 => p_I 3 fun a3 => p_I 4 fun a4 => p_E fun s => K86 s a1 a2 a3 a4))))))))))))))))))))))
set_option maxRecDepth 20000 in
theorem e_m_isBy_b86 (K45 : Sg → Int32 → Int32 → Int32 → Option (Sg × Int32)) (K86 : Sg → Int32 → Int32 → Int32 → Int32 → Option (Sg × Int32)) (c_m_lastPlace : Sg → Option (Sg × Int32)) (c_m_canLine : Sg → Int32 → Int32 → Int32 → Option (Sg × Int32)) (c_m_stateAt : Sg → Int32 → Int32 → Option (Sg × Int32)) (s : Sg) (l1 : Int32) (l2 : Int32) (l3 : Int32) (l4 : Int32) : m_isBy_b86_G K45 K86 c_m_lastPlace c_m_canLine c_m_stateAt s l1 l2 l3 l4 = t_m_isBy_b86 K45 K86 c_m_lastPlace c_m_canLine c_m_stateAt [some (.inr (.inr (some (10, 0)))), some (.inl l1), some (.inl l2), some (.inl l3), some (.inl l4)] [] s := rfl
noncomputable def m_isBy_b45_G (K35 : Sg → Int32 → Int32 → Option (Sg × Int32)) (K45 : Sg → Int32 → Int32 → Int32 → Option (Sg × Int32)) (K86 : Sg → Int32 → Int32 → Int32 → Int32 → Option (Sg × Int32)) (c_m_isStart : Sg → Int32 → Option (Sg × Int32)) (c_m_stateAt : Sg → Int32 → Int32 → Option (Sg × Int32)) (s : Sg) (l1 : Int32) (l2 : Int32) (l3 : Int32) : Option (Sg × Int32) :=
  gif (((l2 + 1) : Int32) < l3) (
    K35 s l1 (l2 + 1))
  (
    gif ((l3 : Int32) < l1) (
      (c_m_isStart s l2).bind fun q1 => (
      gif ((q1.2 : Int32) = 0) (
        K35 q1.1 l1 (l2 + 1))
      (
        (c_m_stateAt q1.1 l3 l2).bind fun q2 => (
        gd (inb q2.2 625) (
        gif (((rI q2.1 66 0 (ix q2.2)) : Int32) = 0) (
          K45 q2.1 l1 l2 (l3 + 1))
        (
          K86 q2.1 l1 l2 l3 (l2 + 1)))))))
    (
      K35 s l1 (l2 + 1)))
noncomputable def m_isBy_b45 (K35 : Sg → Int32 → Int32 → Option (Sg × Int32)) : Nat → Sg → Int32 → Int32 → Int32 → Option (Sg × Int32)
  | 0 => fun _ _ _ _ => none
  | n + 1 => m_isBy_b45_G K35 (m_isBy_b45 K35 n) (m_isBy_b86 K35 (m_isBy_b45 K35 n) FU) m_isStart m_stateAt
noncomputable def t_m_isBy_b45 (K35 : Sg → Int32 → Int32 → Option (Sg × Int32)) (K45 : Sg → Int32 → Int32 → Int32 → Option (Sg × Int32)) (K86 : Sg → Int32 → Int32 → Int32 → Int32 → Option (Sg × Int32)) (c_m_isStart : Sg → Int32 → Option (Sg × Int32)) (c_m_stateAt : Sg → Int32 → Int32 → Option (Sg × Int32)) : Bk (Sg × Int32) := (s_ldI 3 (s_ldI 2 (s_ic 1 (s_bin (fun x y => x + y) (s_cgt
  (s_inc 2 1 (s_goto (p_C 0 10 0 <| p_I 1 fun a1 => p_I 2 fun a2 => p_E fun s => K35 s a1 a2)))
  (s_ldI 3 (s_ldI 1 (s_clt
    (s_ldA 0 (s_ldI 2 (s_call (FW_m_isStart c_m_isStart) 2 (s_eq0
      (s_inc 2 1 (s_goto (p_C 0 10 0 <| p_I 1 fun a1 => p_I 2 fun a2 => p_E fun s => K35 s a1 a2)))
      (s_ldA 0 (s_getRc 10 52 66 0 (s_ldI 3 (s_ldI 2 (s_call (FW_m_stateAt c_m_stateAt) 2 (s_bald 66 625 (s_eq0
        (s_goto (s_inc 3 1 (s_goto (p_C 0 10 0 <| p_I 1 fun a1 => p_I 2 fun a2 => p_I 3 fun a3 => p_E fun s => K45 s a1 a2 a3))))
        (s_ldI 2 (s_ic 1 (s_bin (fun x y => x + y) (s_stI 4 (p_C 0 10 0 <| p_I 1 fun a1 => p_I 2 fun a2 => p_I 3 fun a3 => p_I 4 fun a4 => p_E fun s => K86 s a1 a2 a3 a4))))))))))))))))
    (s_inc 2 1 (s_goto (p_C 0 10 0 <| p_I 1 fun a1 => p_I 2 fun a2 => p_E fun s => K35 s a1 a2)))))))))))
set_option maxRecDepth 20000 in
theorem e_m_isBy_b45 (K35 : Sg → Int32 → Int32 → Option (Sg × Int32)) (K45 : Sg → Int32 → Int32 → Int32 → Option (Sg × Int32)) (K86 : Sg → Int32 → Int32 → Int32 → Int32 → Option (Sg × Int32)) (c_m_isStart : Sg → Int32 → Option (Sg × Int32)) (c_m_stateAt : Sg → Int32 → Int32 → Option (Sg × Int32)) (s : Sg) (l1 : Int32) (l2 : Int32) (l3 : Int32) : m_isBy_b45_G K35 K45 K86 c_m_isStart c_m_stateAt s l1 l2 l3 = t_m_isBy_b45 K35 K45 K86 c_m_isStart c_m_stateAt [some (.inr (.inr (some (10, 0)))), some (.inl l1), some (.inl l2), some (.inl l3), none] [] s := rfl
noncomputable def m_isBy_b35_G (K45 : Sg → Int32 → Int32 → Int32 → Option (Sg × Int32)) (K142 : Sg → Int32 → Int32 → Int32 → Option (Sg × Int32)) (c_m_lastPlace : Sg → Option (Sg × Int32)) (s : Sg) (l1 : Int32) (l2 : Int32) : Option (Sg × Int32) :=
  (c_m_lastPlace s).bind fun q1 => (
  gif ((l2 : Int32) < q1.2) (
    K45 q1.1 l1 l2 0)
  (
    K142 q1.1 l1 0 0))
noncomputable def m_isBy_b35 : Nat → Sg → Int32 → Int32 → Option (Sg × Int32)
  | 0 => fun _ _ _ => none
  | n + 1 => m_isBy_b35_G (m_isBy_b45 (m_isBy_b35 n) FU) (m_isBy_b142 FU) m_lastPlace
noncomputable def t_m_isBy_b35 (K45 : Sg → Int32 → Int32 → Int32 → Option (Sg × Int32)) (K142 : Sg → Int32 → Int32 → Int32 → Option (Sg × Int32)) (c_m_lastPlace : Sg → Option (Sg × Int32)) : Bk (Sg × Int32) := (s_ldI 2 (s_ldA 0 (s_call (FW_m_lastPlace c_m_lastPlace) 1 (s_clt
  (s_ic 0 (s_stI 3 (p_C 0 10 0 <| p_I 1 fun a1 => p_I 2 fun a2 => p_I 3 fun a3 => p_E fun s => K45 s a1 a2 a3)))
  (s_ic 0 (s_stI 2 (s_ic 0 (s_stI 3 (p_C 0 10 0 <| p_I 1 fun a1 => p_I 2 fun a2 => p_I 3 fun a3 => p_E fun s => K142 s a1 a2 a3)))))))))
set_option maxRecDepth 20000 in
theorem e_m_isBy_b35 (K45 : Sg → Int32 → Int32 → Int32 → Option (Sg × Int32)) (K142 : Sg → Int32 → Int32 → Int32 → Option (Sg × Int32)) (c_m_lastPlace : Sg → Option (Sg × Int32)) (s : Sg) (l1 : Int32) (l2 : Int32) : m_isBy_b35_G K45 K142 c_m_lastPlace s l1 l2 = t_m_isBy_b35 K45 K142 c_m_lastPlace [some (.inr (.inr (some (10, 0)))), some (.inl l1), some (.inl l2), none, none] [] s := rfl
noncomputable def m_isBy_b2_G (K2 : Sg → Int32 → Int32 → Option (Sg × Int32)) (K35 : Sg → Int32 → Int32 → Option (Sg × Int32)) (c_m_stateAt : Sg → Int32 → Int32 → Option (Sg × Int32)) (s : Sg) (l1 : Int32) (l2 : Int32) : Option (Sg × Int32) :=
  gif ((l2 : Int32) < 625) (
    gd (inb l2 625) (
    let s1 := wI s 66 0 (ix l2) (vp_nar .boolean 0)
    K2 s1 l1 (l2 + 1)))
  (
    (c_m_stateAt s 0 (-1)).bind fun q2 => (
    gd (inb q2.2 625) (
    let s3 := wI q2.1 66 0 (ix q2.2) (vp_nar .boolean 1)
    K35 s3 l1 (-1))))
noncomputable def m_isBy_b2 : Nat → Sg → Int32 → Int32 → Option (Sg × Int32)
  | 0 => fun _ _ _ => none
  | n + 1 => m_isBy_b2_G (m_isBy_b2 n) (m_isBy_b35 FU) m_stateAt
noncomputable def t_m_isBy_b2 (K2 : Sg → Int32 → Int32 → Option (Sg × Int32)) (K35 : Sg → Int32 → Int32 → Option (Sg × Int32)) (c_m_stateAt : Sg → Int32 → Int32 → Option (Sg × Int32)) : Bk (Sg × Int32) := (s_ldI 2 (s_ic 625 (s_clt
  (s_ldA 0 (s_getRc 10 52 66 0 (s_ldI 2 (s_ic 0 (s_bast .boolean 66 625 (s_inc 2 1 (s_goto (p_C 0 10 0 <| p_I 1 fun a1 => p_I 2 fun a2 => p_E fun s => K2 s a1 a2))))))))
  (s_ldA 0 (s_getRc 10 52 66 0 (s_ic 0 (s_ic (-1) (s_call (FW_m_stateAt c_m_stateAt) 2 (s_ic 1 (s_bast .boolean 66 625 (s_ic (-1) (s_stI 2 (p_C 0 10 0 <| p_I 1 fun a1 => p_I 2 fun a2 => p_E fun s => K35 s a1 a2)))))))))))))
set_option maxRecDepth 20000 in
theorem e_m_isBy_b2 (K2 : Sg → Int32 → Int32 → Option (Sg × Int32)) (K35 : Sg → Int32 → Int32 → Option (Sg × Int32)) (c_m_stateAt : Sg → Int32 → Int32 → Option (Sg × Int32)) (s : Sg) (l1 : Int32) (l2 : Int32) : m_isBy_b2_G K2 K35 c_m_stateAt s l1 l2 = t_m_isBy_b2 K2 K35 c_m_stateAt [some (.inr (.inr (some (10, 0)))), some (.inl l1), some (.inl l2), none, none] [] s := rfl
noncomputable def m_isBy_G (K2 : Sg → Int32 → Int32 → Option (Sg × Int32)) (s : Sg) (l1 : Int32) : Option (Sg × Int32) :=
  K2 s l1 0
noncomputable def m_isBy : Sg → Int32 → Option (Sg × Int32) := m_isBy_G (m_isBy_b2 FU)
noncomputable def t_m_isBy (K2 : Sg → Int32 → Int32 → Option (Sg × Int32)) : Bk (Sg × Int32) := (s_ic 0 (s_stI 2 (p_C 0 10 0 <| p_I 1 fun a1 => p_I 2 fun a2 => p_E fun s => K2 s a1 a2)))
set_option maxRecDepth 20000 in
theorem e_m_isBy (K2 : Sg → Int32 → Int32 → Option (Sg × Int32)) (s : Sg) (l1 : Int32) : m_isBy_G K2 s l1 = t_m_isBy K2 [some (.inr (.inr (some (10, 0)))), some (.inl l1), none, none, none] [] s := rfl
noncomputable def m_narrow_b15_G (K15 : Sg → Int32 → Int32 → Option (Sg × Int32)) (c_m_laysLines : Sg → Int32 → Int32 → Option Sg) (c_m_isBy : Sg → Int32 → Option (Sg × Int32)) (s : Sg) (l1 : Int32) (l2 : Int32) : Option (Sg × Int32) :=
  gif ((60 : Int32) < l2) (
    some (s, (-1)))
  (
    (c_m_laysLines s l2 0).bind fun s1 => (
    (c_m_isBy s1 l1).bind fun q2 => (
    gif ((q2.2 : Int32) = 0) (
      K15 q2.1 l1 (l2 + 1))
    (
      some (q2.1, l2)))))
noncomputable def m_narrow_b15 : Nat → Sg → Int32 → Int32 → Option (Sg × Int32)
  | 0 => fun _ _ _ => none
  | n + 1 => m_narrow_b15_G (m_narrow_b15 n) m_laysLines m_isBy
noncomputable def t_m_narrow_b15 (K15 : Sg → Int32 → Int32 → Option (Sg × Int32)) (c_m_laysLines : Sg → Int32 → Int32 → Option Sg) (c_m_isBy : Sg → Int32 → Option (Sg × Int32)) : Bk (Sg × Int32) := (s_ldI 2 (s_ic 60 (s_cgt
  (s_ic (-1) (s_iret retI))
  (s_ldA 0 (s_ldI 2 (s_ic 0 (s_call (FW_m_laysLines c_m_laysLines) 3 (s_ldA 0 (s_ldI 1 (s_call (FW_m_isBy c_m_isBy) 2 (s_eq0
    (s_inc 2 1 (s_goto (p_C 0 10 0 <| p_I 1 fun a1 => p_I 2 fun a2 => p_E fun s => K15 s a1 a2)))
    (s_ldI 2 (s_iret retI)))))))))))))
set_option maxRecDepth 20000 in
theorem e_m_narrow_b15 (K15 : Sg → Int32 → Int32 → Option (Sg × Int32)) (c_m_laysLines : Sg → Int32 → Int32 → Option Sg) (c_m_isBy : Sg → Int32 → Option (Sg × Int32)) (s : Sg) (l1 : Int32) (l2 : Int32) : m_narrow_b15_G K15 c_m_laysLines c_m_isBy s l1 l2 = t_m_narrow_b15 K15 c_m_laysLines c_m_isBy [some (.inr (.inr (some (10, 0)))), some (.inl l1), some (.inl l2)] [] s := rfl
noncomputable def m_narrow_G (K15 : Sg → Int32 → Int32 → Option (Sg × Int32)) (c_m_lies : Sg → Int32 → Int32 → Int32 → Option (Sg × Int32)) (s : Sg) (l1 : Int32) : Option (Sg × Int32) :=
  (c_m_lies s l1 0 24).bind fun q1 => (
  gif ((q1.2 : Int32) = 0) (
    some (q1.1, (-1)))
  (
    K15 q1.1 l1 10))
noncomputable def m_narrow : Sg → Int32 → Option (Sg × Int32) := m_narrow_G (m_narrow_b15 FU) m_lies
noncomputable def t_m_narrow (K15 : Sg → Int32 → Int32 → Option (Sg × Int32)) (c_m_lies : Sg → Int32 → Int32 → Int32 → Option (Sg × Int32)) : Bk (Sg × Int32) := (s_ldI 1 (s_ic 0 (s_ic 24 (s_call (FW_m_lies c_m_lies) 3 (s_eq0
  (s_ic (-1) (s_iret retI))
  (s_ic 10 (s_stI 2 (p_C 0 10 0 <| p_I 1 fun a1 => p_I 2 fun a2 => p_E fun s => K15 s a1 a2))))))))
set_option maxRecDepth 20000 in
theorem e_m_narrow (K15 : Sg → Int32 → Int32 → Option (Sg × Int32)) (c_m_lies : Sg → Int32 → Int32 → Int32 → Option (Sg × Int32)) (s : Sg) (l1 : Int32) : m_narrow_G K15 c_m_lies s l1 = t_m_narrow K15 c_m_lies [some (.inr (.inr (some (10, 0)))), some (.inl l1), none] [] s := rfl
noncomputable def m_leaveOut_b20_G (K20 : Sg → Int32 → Int32 → Int32 → Int32 → Option (Sg × Int32)) (c_m_wordMany : Sg → Option (Sg × Int32)) (c_m_leavesOut : Sg → Int32 → Option Sg) (c_m_bestNow : Sg → Option (Sg × Int32)) (c_m_laysAllWords : Sg → Option Sg) (s : Sg) (l1 : Int32) (l2 : Int32) (l3 : Int32) (l4 : Int32) : Option (Sg × Int32) :=
  (c_m_wordMany s).bind fun q1 => (
  gif ((l4 : Int32) < q1.2) (
    (c_m_leavesOut q1.1 l4).bind fun s2 => (
    (c_m_bestNow s2).bind fun q3 => (
    gif ((q3.2 : Int32) = (-1)) (
      K20 q3.1 l1 l2 l3 (l4 + 1))
    (
      gif ((q3.2 : Int32) < l3) (
        K20 q3.1 l1 l4 q3.2 (l4 + 1))
      (
        K20 q3.1 l1 l2 l3 (l4 + 1))))))
  (
    (c_m_laysAllWords q1.1).bind fun s4 => (
    gif ((l2 : Int32) = (-1)) (
      some (s4, l2))
    (
      gif ((l1 : Int32) = 0) (
        some (s4, l2))
      (
        some (s4, l3))))))
noncomputable def m_leaveOut_b20 : Nat → Sg → Int32 → Int32 → Int32 → Int32 → Option (Sg × Int32)
  | 0 => fun _ _ _ _ _ => none
  | n + 1 => m_leaveOut_b20_G (m_leaveOut_b20 n) m_wordMany m_leavesOut m_bestNow m_laysAllWords
noncomputable def t_m_leaveOut_b20 (K20 : Sg → Int32 → Int32 → Int32 → Int32 → Option (Sg × Int32)) (c_m_wordMany : Sg → Option (Sg × Int32)) (c_m_leavesOut : Sg → Int32 → Option Sg) (c_m_bestNow : Sg → Option (Sg × Int32)) (c_m_laysAllWords : Sg → Option Sg) : Bk (Sg × Int32) := (s_ldI 4 (s_ldA 0 (s_call (FW_m_wordMany c_m_wordMany) 1 (s_clt
  (s_ldA 0 (s_ldI 4 (s_call (FW_m_leavesOut c_m_leavesOut) 2 (s_ldA 0 (s_call (FW_m_bestNow c_m_bestNow) 1 (s_stI 5 (s_ldI 5 (s_ic (-1) (s_ceq
    (s_inc 4 1 (s_goto (p_C 0 10 0 <| p_I 1 fun a1 => p_I 2 fun a2 => p_I 3 fun a3 => p_I 4 fun a4 => p_E fun s => K20 s a1 a2 a3 a4)))
    (s_ldI 5 (s_ldI 3 (s_clt
      (s_ldI 5 (s_stI 3 (s_ldI 4 (s_stI 2 (s_inc 4 1 (s_goto (p_C 0 10 0 <| p_I 1 fun a1 => p_I 2 fun a2 => p_I 3 fun a3 => p_I 4 fun a4 => p_E fun s => K20 s a1 a2 a3 a4)))))))
      (s_goto (s_inc 4 1 (s_goto (p_C 0 10 0 <| p_I 1 fun a1 => p_I 2 fun a2 => p_I 3 fun a3 => p_I 4 fun a4 => p_E fun s => K20 s a1 a2 a3 a4))))))))))))))))
  (s_ldA 0 (s_call (FW_m_laysAllWords c_m_laysAllWords) 1 (s_ldI 2 (s_ic (-1) (s_ceq
    (s_ldI 2 (s_goto (s_iret retI)))
    (s_ldI 1 (s_eq0
      (s_ldI 2 (s_goto (s_iret retI)))
      (s_ldI 3 (s_iret retI)))))))))))))
set_option maxRecDepth 20000 in
theorem e_m_leaveOut_b20 (K20 : Sg → Int32 → Int32 → Int32 → Int32 → Option (Sg × Int32)) (c_m_wordMany : Sg → Option (Sg × Int32)) (c_m_leavesOut : Sg → Int32 → Option Sg) (c_m_bestNow : Sg → Option (Sg × Int32)) (c_m_laysAllWords : Sg → Option Sg) (s : Sg) (l1 : Int32) (l2 : Int32) (l3 : Int32) (l4 : Int32) : m_leaveOut_b20_G K20 c_m_wordMany c_m_leavesOut c_m_bestNow c_m_laysAllWords s l1 l2 l3 l4 = t_m_leaveOut_b20 K20 c_m_wordMany c_m_leavesOut c_m_bestNow c_m_laysAllWords [some (.inr (.inr (some (10, 0)))), some (.inl l1), some (.inl l2), some (.inl l3), some (.inl l4), none] [] s := rfl
noncomputable def m_leaveOut_G (K20 : Sg → Int32 → Int32 → Int32 → Int32 → Option (Sg × Int32)) (c_m_lies : Sg → Int32 → Int32 → Int32 → Option (Sg × Int32)) (s : Sg) (l1 : Int32) : Option (Sg × Int32) :=
  (c_m_lies s l1 0 1).bind fun q1 => (
  gif ((q1.2 : Int32) = 0) (
    some (q1.1, (-1)))
  (
    K20 q1.1 l1 (-1) 100000000 0))
noncomputable def m_leaveOut : Sg → Int32 → Option (Sg × Int32) := m_leaveOut_G (m_leaveOut_b20 FU) m_lies
noncomputable def t_m_leaveOut (K20 : Sg → Int32 → Int32 → Int32 → Int32 → Option (Sg × Int32)) (c_m_lies : Sg → Int32 → Int32 → Int32 → Option (Sg × Int32)) : Bk (Sg × Int32) := (s_ldI 1 (s_ic 0 (s_ic 1 (s_call (FW_m_lies c_m_lies) 3 (s_eq0
  (s_ic (-1) (s_iret retI))
  (s_ic (-1) (s_stI 2 (s_ic 100000000 (s_stI 3 (s_ic 0 (s_stI 4 (p_C 0 10 0 <| p_I 1 fun a1 => p_I 2 fun a2 => p_I 3 fun a3 => p_I 4 fun a4 => p_E fun s => K20 s a1 a2 a3 a4))))))))))))
set_option maxRecDepth 20000 in
theorem e_m_leaveOut (K20 : Sg → Int32 → Int32 → Int32 → Int32 → Option (Sg × Int32)) (c_m_lies : Sg → Int32 → Int32 → Int32 → Option (Sg × Int32)) (s : Sg) (l1 : Int32) : m_leaveOut_G K20 c_m_lies s l1 = t_m_leaveOut K20 c_m_lies [some (.inr (.inr (some (10, 0)))), some (.inl l1), none, none, none, none] [] s := rfl
noncomputable def m_compare_G (c_m_isLaw : Sg → Int32 → Option (Sg × Int32)) (c_m_bestNow : Sg → Option (Sg × Int32)) (s : Sg) (l1 : Int32) : Option (Sg × Int32) :=
  (c_m_isLaw s l1).bind fun q1 => (
  gif ((q1.2 : Int32) = 0) (
    some (q1.1, (-1)))
  (
    gd (inb 57 5665) (
    gd (inb 57 5665) (
    let s2 := wI q1.1 43 0 (ix 57) l1
    (c_m_bestNow s2).bind fun q3 => (
    gd (inb 57 5665) (
    let s4 := wI q3.1 43 0 (ix 57) (rI q1.1 43 0 (ix 57))
    some (s4, q3.2)))))))
noncomputable def m_compare : Sg → Int32 → Option (Sg × Int32) := m_compare_G m_isLaw m_bestNow
noncomputable def t_m_compare (c_m_isLaw : Sg → Int32 → Option (Sg × Int32)) (c_m_bestNow : Sg → Option (Sg × Int32)) : Bk (Sg × Int32) := (s_ldA 0 (s_ldI 1 (s_call (FW_m_isLaw c_m_isLaw) 2 (s_eq0
  (s_ic (-1) (s_iret retI))
  (s_ldA 0 (s_getRc 10 2 43 0 (s_ic 57 (s_iald 43 5665 (s_stI 2 (s_ldA 0 (s_getRc 10 2 43 0 (s_ic 57 (s_ldI 1 (s_iast 43 5665 (s_ldA 0 (s_call (FW_m_bestNow c_m_bestNow) 1 (s_stI 3 (s_ldA 0 (s_getRc 10 2 43 0 (s_ic 57 (s_ldI 2 (s_iast 43 5665 (s_ldI 3 (s_iret retI))))))))))))))))))))))))
set_option maxRecDepth 20000 in
theorem e_m_compare (c_m_isLaw : Sg → Int32 → Option (Sg × Int32)) (c_m_bestNow : Sg → Option (Sg × Int32)) (s : Sg) (l1 : Int32) : m_compare_G c_m_isLaw c_m_bestNow s l1 = t_m_compare c_m_isLaw c_m_bestNow [some (.inr (.inr (some (10, 0)))), some (.inl l1), none, none] [] s := rfl
noncomputable def m_addsSpaced_G (s : Sg) (l1 : Int32) (l2 : Int32) (l3 : Int32) (l4 : Int32) : Option (Sg × Int32) :=
  gif ((l3 : Int32) = 0) (
    gd (inb l1 2) (
    gd (inb ((13 * l1) + (rI s 69 0 (ix l1))) 26) (
    let s1 := wI s 67 0 (ix ((13 * l1) + (rI s 69 0 (ix l1)))) l2
    gd (inb l1 2) (
    gd (inb l1 2) (
    let s2 := wI s1 69 0 (ix l1) ((rI s1 69 0 (ix l1)) + 1)
    some (s2, ((l2 + 1) + l4)))))))
  (
    some (s, l4))
noncomputable def m_addsSpaced : Sg → Int32 → Int32 → Int32 → Int32 → Option (Sg × Int32) := m_addsSpaced_G
noncomputable def t_m_addsSpaced : Bk (Sg × Int32) := (s_ldI 3 (s_eq0
  (s_ldA 0 (s_getRc 10 53 67 0 (s_ic 13 (s_ldI 1 (s_bin (fun x y => x * y) (s_ldA 0 (s_getRc 10 55 69 0 (s_ldI 1 (s_iald 69 2 (s_bin (fun x y => x + y) (s_ldI 2 (s_iast 67 26 (s_ldA 0 (s_getRc 10 55 69 0 (s_ldI 1 (s_dup2 (s_iald 69 2 (s_ic 1 (s_bin (fun x y => x + y) (s_iast 69 2 (s_ldI 2 (s_ic 1 (s_bin (fun x y => x + y) (s_ldI 4 (s_bin (fun x y => x + y) (s_iret retI))))))))))))))))))))))))))
  (s_ldI 4 (s_iret retI))))
set_option maxRecDepth 20000 in
theorem e_m_addsSpaced (s : Sg) (l1 : Int32) (l2 : Int32) (l3 : Int32) (l4 : Int32) : m_addsSpaced_G s l1 l2 l3 l4 = t_m_addsSpaced [some (.inr (.inr (some (10, 0)))), some (.inl l1), some (.inl l2), some (.inl l3), some (.inl l4)] [] s := rfl
noncomputable def m_laysSpaces_b96_G (K96 : Sg → Int32 → Int32 → Int32 → Int32 → Int32 → Option Sg) (c_m_addsSpaced : Sg → Int32 → Int32 → Int32 → Int32 → Option (Sg × Int32)) (c_m_isWithin : Sg → Int32 → Option (Sg × Int32)) (s : Sg) (l1 : Int32) (l4 : Int32) (l5 : Int32) (l6 : Int32) (l7 : Int32) : Option Sg :=
  gd (¬ 2 = (0 : Int32)) (
  gif ((l7 : Int32) < ((l4 + 1) / 2)) (
    gd (inb (2 + l7) 5665) (
    (c_m_addsSpaced s l1 l5 l6 (rI s 43 0 (ix (2 + l7)))).bind fun q1 => (
    K96 q1.1 l1 l4 q1.2 0 (l7 + 1))))
  (
    (c_m_isWithin s l4).bind fun q2 => (
    gif ((q2.2 : Int32) = 0) (
      some q2.1)
    (
      gd (¬ 2 = (0 : Int32)) (
      gd (inb (15 + (l4 / 2)) 5665) (
      (c_m_addsSpaced q2.1 l1 l5 l6 (rI q2.1 43 0 (ix (15 + (l4 / 2))))).bind fun q3 => (
      some q3.1)))))))
noncomputable def m_laysSpaces_b96 : Nat → Sg → Int32 → Int32 → Int32 → Int32 → Int32 → Option Sg
  | 0 => fun _ _ _ _ _ _ => none
  | n + 1 => m_laysSpaces_b96_G (m_laysSpaces_b96 n) m_addsSpaced m_isWithin
noncomputable def t_m_laysSpaces_b96 (K96 : Sg → Int32 → Int32 → Int32 → Int32 → Int32 → Option Sg) (c_m_addsSpaced : Sg → Int32 → Int32 → Int32 → Int32 → Option (Sg × Int32)) (c_m_isWithin : Sg → Int32 → Option (Sg × Int32)) : Bk Sg := (s_ldI 7 (s_ldI 4 (s_ic 1 (s_bin (fun x y => x + y) (s_ic 2 (s_div (fun x y => x / y) (s_clt
  (s_ldA 0 (s_ldI 1 (s_ldI 5 (s_ldI 6 (s_ldA 0 (s_getRc 10 2 43 0 (s_ic 2 (s_ldI 7 (s_bin (fun x y => x + y) (s_iald 43 5665 (s_call (FW_m_addsSpaced c_m_addsSpaced) 5 (s_stI 5 (s_ic 0 (s_stI 6 (s_inc 7 1 (s_goto (p_C 0 10 0 <| p_I 1 fun a1 => p_I 4 fun a4 => p_I 5 fun a5 => p_I 6 fun a6 => p_I 7 fun a7 => p_E fun s => K96 s a1 a4 a5 a6 a7)))))))))))))))))
  (s_ldI 4 (s_call (FW_m_isWithin c_m_isWithin) 1 (s_eq0
    (s_vret retV)
    (s_ldA 0 (s_ldI 1 (s_ldI 5 (s_ldI 6 (s_ldA 0 (s_getRc 10 2 43 0 (s_ic 15 (s_ldI 4 (s_ic 2 (s_div (fun x y => x / y) (s_bin (fun x y => x + y) (s_iald 43 5665 (s_call (FW_m_addsSpaced c_m_addsSpaced) 5 (s_pop (s_vret retV)))))))))))))))))))))))))
set_option maxRecDepth 20000 in
theorem e_m_laysSpaces_b96 (K96 : Sg → Int32 → Int32 → Int32 → Int32 → Int32 → Option Sg) (c_m_addsSpaced : Sg → Int32 → Int32 → Int32 → Int32 → Option (Sg × Int32)) (c_m_isWithin : Sg → Int32 → Option (Sg × Int32)) (s : Sg) (l1 : Int32) (l4 : Int32) (l5 : Int32) (l6 : Int32) (l7 : Int32) : m_laysSpaces_b96_G K96 c_m_addsSpaced c_m_isWithin s l1 l4 l5 l6 l7 = t_m_laysSpaces_b96 K96 c_m_addsSpaced c_m_isWithin [some (.inr (.inr (some (10, 0)))), some (.inl l1), none, none, some (.inl l4), some (.inl l5), some (.inl l6), some (.inl l7)] [] s := rfl
noncomputable def m_laysSpaces_b16_G (K96 : Sg → Int32 → Int32 → Int32 → Int32 → Int32 → Option Sg) (c_m_isWithin : Sg → Int32 → Option (Sg × Int32)) (c_m_addsSpaced : Sg → Int32 → Int32 → Int32 → Int32 → Option (Sg × Int32)) (s : Sg) (l1 : Int32) (l2 : Int32) (y0 : Int32) : Option Sg :=
  gd (inb l2 24) (
  gd (inb l1 2) (
  let s1 := wI s 69 0 (ix l1) 0
  (c_m_isWithin s1 y0).bind fun q2 => (
  gif ((q2.2 : Int32) = 0) (
    gif ((y0 : Int32) = (-1)) (
      K96 q2.1 l1 (rI s 58 0 (ix l2)) 0 1 0)
    (
      gd (¬ 2 = (0 : Int32)) (
      K96 q2.1 l1 (rI s 58 0 (ix l2)) 0 1 ((y0 / 2) + 1))))
  (
    gd (¬ 2 = (0 : Int32)) (
    gd (inb (2 + (y0 / 2)) 5665) (
    gd (¬ 2 = (0 : Int32)) (
    gd (inb (15 + (y0 / 2)) 5665) (
    (c_m_addsSpaced q2.1 l1 0 1 ((rI q2.1 43 0 (ix (2 + (y0 / 2)))) - (rI q2.1 43 0 (ix (15 + (y0 / 2)))))).bind fun q3 => (
    gif ((y0 : Int32) = (-1)) (
      K96 q3.1 l1 (rI s 58 0 (ix l2)) q3.2 0 0)
    (
      gd (¬ 2 = (0 : Int32)) (
      K96 q3.1 l1 (rI s 58 0 (ix l2)) q3.2 0 ((y0 / 2) + 1))))))))))))
noncomputable def m_laysSpaces_b16 : Sg → Int32 → Int32 → Int32 → Option Sg := m_laysSpaces_b16_G (m_laysSpaces_b96 FU) m_isWithin m_addsSpaced
noncomputable def t_m_laysSpaces_b16 (K96 : Sg → Int32 → Int32 → Int32 → Int32 → Int32 → Option Sg) (c_m_isWithin : Sg → Int32 → Option (Sg × Int32)) (c_m_addsSpaced : Sg → Int32 → Int32 → Int32 → Int32 → Option (Sg × Int32)) : Bk Sg := (s_stI 3 (s_ldA 0 (s_getRc 10 42 58 0 (s_ldI 2 (s_iald 58 24 (s_stI 4 (s_ic 0 (s_stI 5 (s_ic 1 (s_stI 6 (s_ldA 0 (s_getRc 10 55 69 0 (s_ldI 1 (s_ic 0 (s_iast 69 2 (s_ldI 3 (s_call (FW_m_isWithin c_m_isWithin) 1 (s_eq0
  (s_ldI 3 (s_ic (-1) (s_ceq
    (s_ic 0 (s_goto (s_stI 7 (p_C 0 10 0 <| p_I 1 fun a1 => p_I 4 fun a4 => p_I 5 fun a5 => p_I 6 fun a6 => p_I 7 fun a7 => p_E fun s => K96 s a1 a4 a5 a6 a7))))
    (s_ldI 3 (s_ic 2 (s_div (fun x y => x / y) (s_ic 1 (s_bin (fun x y => x + y) (s_stI 7 (p_C 0 10 0 <| p_I 1 fun a1 => p_I 4 fun a4 => p_I 5 fun a5 => p_I 6 fun a6 => p_I 7 fun a7 => p_E fun s => K96 s a1 a4 a5 a6 a7))))))))))
  (s_ldA 0 (s_ldI 1 (s_ldI 5 (s_ic 1 (s_ldA 0 (s_getRc 10 2 43 0 (s_ic 2 (s_ldI 3 (s_ic 2 (s_div (fun x y => x / y) (s_bin (fun x y => x + y) (s_iald 43 5665 (s_ldA 0 (s_getRc 10 2 43 0 (s_ic 15 (s_ldI 3 (s_ic 2 (s_div (fun x y => x / y) (s_bin (fun x y => x + y) (s_iald 43 5665 (s_bin (fun x y => x - y) (s_call (FW_m_addsSpaced c_m_addsSpaced) 5 (s_stI 5 (s_ic 0 (s_stI 6 (s_ldI 3 (s_ic (-1) (s_ceq
    (s_ic 0 (s_goto (s_stI 7 (p_C 0 10 0 <| p_I 1 fun a1 => p_I 4 fun a4 => p_I 5 fun a5 => p_I 6 fun a6 => p_I 7 fun a7 => p_E fun s => K96 s a1 a4 a5 a6 a7))))
    (s_ldI 3 (s_ic 2 (s_div (fun x y => x / y) (s_ic 1 (s_bin (fun x y => x + y) (s_stI 7 (p_C 0 10 0 <| p_I 1 fun a1 => p_I 4 fun a4 => p_I 5 fun a5 => p_I 6 fun a6 => p_I 7 fun a7 => p_E fun s => K96 s a1 a4 a5 a6 a7)))))))))))))))))))))))))))))))))))))))))))))))))))))
set_option maxRecDepth 20000 in
theorem e_m_laysSpaces_b16 (K96 : Sg → Int32 → Int32 → Int32 → Int32 → Int32 → Option Sg) (c_m_isWithin : Sg → Int32 → Option (Sg × Int32)) (c_m_addsSpaced : Sg → Int32 → Int32 → Int32 → Int32 → Option (Sg × Int32)) (s : Sg) (l1 : Int32) (l2 : Int32) (y0 : Int32) : m_laysSpaces_b16_G K96 c_m_isWithin c_m_addsSpaced s l1 l2 y0 = t_m_laysSpaces_b16 K96 c_m_isWithin c_m_addsSpaced [some (.inr (.inr (some (10, 0)))), some (.inl l1), some (.inl l2), none, none, none, none, none] [.inl y0] s := rfl
noncomputable def m_laysSpaces_G (K16 : Sg → Int32 → Int32 → Int32 → Option Sg) (s : Sg) (l1 : Int32) (l2 : Int32) : Option Sg :=
  gif ((l2 : Int32) = 0) (
    K16 s l1 l2 (-1))
  (
    gd (inb (l2 - 1) 24) (
    K16 s l1 l2 (rI s 58 0 (ix (l2 - 1)))))
noncomputable def m_laysSpaces : Sg → Int32 → Int32 → Option Sg := m_laysSpaces_G (m_laysSpaces_b16)
noncomputable def t_m_laysSpaces (K16 : Sg → Int32 → Int32 → Int32 → Option Sg) : Bk Sg := (s_ldI 2 (s_eq0
  (s_ic (-1) (s_goto (p_C 0 10 0 <| p_I 1 fun a1 => p_I 2 fun a2 => q_I fun b0 => p_E fun s => K16 s a1 a2 b0)))
  (s_ldA 0 (s_getRc 10 42 58 0 (s_ldI 2 (s_ic 1 (s_bin (fun x y => x - y) (s_iald 58 24 (p_C 0 10 0 <| p_I 1 fun a1 => p_I 2 fun a2 => q_I fun b0 => p_E fun s => K16 s a1 a2 b0)))))))))
set_option maxRecDepth 20000 in
theorem e_m_laysSpaces (K16 : Sg → Int32 → Int32 → Int32 → Option Sg) (s : Sg) (l1 : Int32) (l2 : Int32) : m_laysSpaces_G K16 s l1 l2 = t_m_laysSpaces K16 [some (.inr (.inr (some (10, 0)))), some (.inl l1), some (.inl l2), none, none, none, none, none] [] s := rfl
