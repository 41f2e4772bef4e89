noncomputable def m_orders_b122_G (K122 : Sg → Int32 → Int32 → Int32 → Option (Sg × Int32)) (c_m_refuses : Sg → Int32 → Option (Sg × Int32)) (s : Sg) (l1 : Int32) (l3 : Int32) (l4 : Int32) : Option (Sg × Int32) :=
  gif ((l4 : Int32) < 256) (
    gd (inb l4 256) (
    gd (inb l4 256) (
    let s1 := wI s 59 0 (ix l4) (rI s 60 0 (ix l4))
    K122 s1 l1 l3 (l4 + 1))))
  (
    let s2 := wI s 10 0 46 l1
    let s3 := wI s2 10 0 58 l3
    (c_m_refuses s3 (-3)).bind fun q4 => (
    some (q4.1, q4.2)))
noncomputable def m_orders_b122 : Nat → Sg → Int32 → Int32 → Int32 → Option (Sg × Int32)
  | 0 => fun _ _ _ _ => none
  | n + 1 => m_orders_b122_G (m_orders_b122 n) m_refuses
noncomputable def t_m_orders_b122 (K122 : Sg → Int32 → Int32 → Int32 → Option (Sg × Int32)) (c_m_refuses : Sg → Int32 → Option (Sg × Int32)) : Bk (Sg × Int32) := (s_ldI 4 (s_ic 256 (s_clt
  (s_ldA 0 (s_getRc 10 44 59 0 (s_ldI 4 (s_ldA 0 (s_getRc 10 45 60 0 (s_ldI 4 (s_iald 60 256 (s_iast 59 256 (s_inc 4 1 (s_goto (p_C 0 10 0 <| p_I 1 fun a1 => p_I 3 fun a3 => p_I 4 fun a4 => p_E fun s => K122 s a1 a3 a4)))))))))))
  (s_ldA 0 (s_ldI 1 (s_putI 10 46 (s_ldA 0 (s_ldI 3 (s_putI 10 58 (s_ldA 0 (s_ic (-3) (s_call (FW_m_refuses c_m_refuses) 2 (s_iret retI)))))))))))))
set_option maxRecDepth 20000 in
theorem e_m_orders_b122 (K122 : Sg → Int32 → Int32 → Int32 → Option (Sg × Int32)) (c_m_refuses : Sg → Int32 → Option (Sg × Int32)) (s : Sg) (l1 : Int32) (l3 : Int32) (l4 : Int32) : m_orders_b122_G K122 c_m_refuses s l1 l3 l4 = t_m_orders_b122 K122 c_m_refuses [some (.inr (.inr (some (10, 0)))), some (.inl l1), none, some (.inl l3), some (.inl l4)] [] s := rfl
noncomputable def m_orders_b95_G (K95 : Sg → Int32 → Int32 → Int32 → Option (Sg × Int32)) (K122 : Sg → Int32 → Int32 → Int32 → Option (Sg × Int32)) (c_m_runs : Sg → Int32 → Option (Sg × Int32)) (c_m_takesBack : Sg → Int32 → Option Sg) (c_m_good : Sg → Int32 → Option (Sg × Int32)) (s : Sg) (l1 : Int32) (l2 : Int32) (l3 : Int32) : Option (Sg × Int32) :=
  gif (((rI s 10 0 59) : Int32) < l2) (
    (c_m_runs s l2).bind fun q1 => (
    gif ((q1.2 : Int32) = 0) (
      (c_m_takesBack q1.1 1).bind fun s2 => (
      K122 s2 l1 l3 0))
    (
      K95 q1.1 l1 l2 (l3 + 1))))
  (
    (c_m_good s (rI s 10 0 29)).bind fun q3 => (
    some (q3.1, q3.2)))
noncomputable def m_orders_b95 : Nat → Sg → Int32 → Int32 → Int32 → Option (Sg × Int32)
  | 0 => fun _ _ _ _ => none
  | n + 1 => m_orders_b95_G (m_orders_b95 n) (m_orders_b122 FU) m_runs m_takesBack m_good
noncomputable def t_m_orders_b95 (K95 : Sg → Int32 → Int32 → Int32 → Option (Sg × Int32)) (K122 : Sg → Int32 → Int32 → Int32 → Option (Sg × Int32)) (c_m_runs : Sg → Int32 → Option (Sg × Int32)) (c_m_takesBack : Sg → Int32 → Option Sg) (c_m_good : Sg → Int32 → Option (Sg × Int32)) : Bk (Sg × Int32) := (s_ldA 0 (s_getI 10 59 (s_ldI 2 (s_clt
  (s_ldA 0 (s_ldI 2 (s_call (FW_m_runs c_m_runs) 2 (s_eq0
    (s_ldA 0 (s_ic 1 (s_call (FW_m_takesBack c_m_takesBack) 2 (s_ic 0 (s_stI 4 (p_C 0 10 0 <| p_I 1 fun a1 => p_I 3 fun a3 => p_I 4 fun a4 => p_E fun s => K122 s a1 a3 a4))))))
    (s_goto (s_inc 3 1 (s_goto (p_C 0 10 0 <| p_I 1 fun a1 => p_I 2 fun a2 => p_I 3 fun a3 => p_E fun s => K95 s a1 a2 a3))))))))
  (s_ldA 0 (s_ldA 0 (s_getI 10 29 (s_call (FW_m_good c_m_good) 2 (s_iret retI)))))))))
set_option maxRecDepth 20000 in
theorem e_m_orders_b95 (K95 : Sg → Int32 → Int32 → Int32 → Option (Sg × Int32)) (K122 : Sg → Int32 → Int32 → Int32 → Option (Sg × Int32)) (c_m_runs : Sg → Int32 → Option (Sg × Int32)) (c_m_takesBack : Sg → Int32 → Option Sg) (c_m_good : Sg → Int32 → Option (Sg × Int32)) (s : Sg) (l1 : Int32) (l2 : Int32) (l3 : Int32) : m_orders_b95_G K95 K122 c_m_runs c_m_takesBack c_m_good s l1 l2 l3 = t_m_orders_b95 K95 K122 c_m_runs c_m_takesBack c_m_good [some (.inr (.inr (some (10, 0)))), some (.inl l1), some (.inl l2), some (.inl l3), none] [] s := rfl
noncomputable def m_orders_b27_G (K27 : Sg → Int32 → Option (Sg × Int32)) (K95 : Sg → Int32 → Int32 → Int32 → Option (Sg × Int32)) (c_m_lays : Sg → Int32 → Option Sg) (s : Sg) (l1 : Int32) : Option (Sg × Int32) :=
  gif ((l1 : Int32) < 256) (
    gd (inb l1 256) (
    gd (inb l1 256) (
    let s1 := wI s 60 0 (ix l1) (rI s 59 0 (ix l1))
    K27 s1 (l1 + 1))))
  (
    (c_m_lays s 6).bind fun s2 => (
    let s3 := wI s2 10 0 29 0
    let s4 := wI s3 10 0 30 (-1)
    let s5 := wI s4 10 0 59 2400
    gd (inb 64 5665) (
    K95 s5 (rI s 10 0 46) ((rI s5 10 0 59) + (rI s5 43 0 (ix 64))) 0)))
noncomputable def m_orders_b27 : Nat → Sg → Int32 → Option (Sg × Int32)
  | 0 => fun _ _ => none
  | n + 1 => m_orders_b27_G (m_orders_b27 n) (m_orders_b95 FU) m_lays
noncomputable def t_m_orders_b27 (K27 : Sg → Int32 → Option (Sg × Int32)) (K95 : Sg → Int32 → Int32 → Int32 → Option (Sg × Int32)) (c_m_lays : Sg → Int32 → Option Sg) : Bk (Sg × Int32) := (s_ldI 1 (s_ic 256 (s_clt
  (s_ldA 0 (s_getRc 10 45 60 0 (s_ldI 1 (s_ldA 0 (s_getRc 10 44 59 0 (s_ldI 1 (s_iald 59 256 (s_iast 60 256 (s_inc 1 1 (s_goto (p_C 0 10 0 <| p_I 1 fun a1 => p_E fun s => K27 s a1)))))))))))
  (s_ldA 0 (s_getI 10 46 (s_stI 1 (s_ldA 0 (s_ic 6 (s_call (FW_m_lays c_m_lays) 2 (s_ldA 0 (s_ic 0 (s_putI 10 29 (s_ldA 0 (s_ic (-1) (s_putI 10 30 (s_ldA 0 (s_ic 2400 (s_putI 10 59 (s_ldA 0 (s_getI 10 59 (s_ldA 0 (s_getRc 10 2 43 0 (s_ic 64 (s_iald 43 5665 (s_bin (fun x y => x + y) (s_stI 2 (s_ic 0 (s_stI 3 (p_C 0 10 0 <| p_I 1 fun a1 => p_I 2 fun a2 => p_I 3 fun a3 => p_E fun s => K95 s a1 a2 a3)))))))))))))))))))))))))))))
set_option maxRecDepth 20000 in
theorem e_m_orders_b27 (K27 : Sg → Int32 → Option (Sg × Int32)) (K95 : Sg → Int32 → Int32 → Int32 → Option (Sg × Int32)) (c_m_lays : Sg → Int32 → Option Sg) (s : Sg) (l1 : Int32) : m_orders_b27_G K27 K95 c_m_lays s l1 = t_m_orders_b27 K27 K95 c_m_lays [some (.inr (.inr (some (10, 0)))), some (.inl l1), none, none, none] [] s := rfl
noncomputable def m_orders_G (K27 : Sg → Int32 → Option (Sg × Int32)) (c_m_readsAs : Sg → Int32 → Option (Sg × Int32)) (c_m_refuses : Sg → Int32 → Option (Sg × Int32)) (c_m_laysAside : Sg → Int32 → Option Sg) (s : Sg) : Option (Sg × Int32) :=
  let s1 := wI s 10 0 58 (-1)
  (c_m_readsAs s1 1).bind fun q2 => (
  gif ((q2.2 : Int32) = 0) (
    (c_m_refuses q2.1 (-6)).bind fun q3 => (
    some (q3.1, q3.2)))
  (
    (c_m_laysAside q2.1 1).bind fun s4 => (
    K27 s4 0)))
noncomputable def m_orders : Sg → Option (Sg × Int32) := m_orders_G (m_orders_b27 FU) m_readsAs m_refuses m_laysAside
noncomputable def t_m_orders (K27 : Sg → Int32 → Option (Sg × Int32)) (c_m_readsAs : Sg → Int32 → Option (Sg × Int32)) (c_m_refuses : Sg → Int32 → Option (Sg × Int32)) (c_m_laysAside : Sg → Int32 → Option Sg) : Bk (Sg × Int32) := (s_ldA 0 (s_ic (-1) (s_putI 10 58 (s_ldA 0 (s_ic 1 (s_call (FW_m_readsAs c_m_readsAs) 2 (s_eq0
  (s_ldA 0 (s_ic (-6) (s_call (FW_m_refuses c_m_refuses) 2 (s_iret retI))))
  (s_ldA 0 (s_ic 1 (s_call (FW_m_laysAside c_m_laysAside) 2 (s_ic 0 (s_stI 1 (p_C 0 10 0 <| p_I 1 fun a1 => p_E fun s => K27 s a1)))))))))))))
set_option maxRecDepth 20000 in
theorem e_m_orders (K27 : Sg → Int32 → Option (Sg × Int32)) (c_m_readsAs : Sg → Int32 → Option (Sg × Int32)) (c_m_refuses : Sg → Int32 → Option (Sg × Int32)) (c_m_laysAside : Sg → Int32 → Option Sg) (s : Sg) : m_orders_G K27 c_m_readsAs c_m_refuses c_m_laysAside s = t_m_orders K27 c_m_readsAs c_m_refuses c_m_laysAside [some (.inr (.inr (some (10, 0)))), none, none, none, none] [] s := rfl
noncomputable def m_draws_G (s : Sg) (l1 : Int32) : Option (Sg × Int32) :=
  gd (¬ 1000003 = (0 : Int64)) (
  let s1 := wI s 10 0 67 (Int64.toInt32 (g_lrem ((1103 * (Int32.toInt64 (rI s 10 0 67))) + 12345) 1000003))
  gd (¬ l1 = (0 : Int32)) (
  some (s1, (g_rem (rI s1 10 0 67) l1))))
noncomputable def m_draws : Sg → Int32 → Option (Sg × Int32) := m_draws_G
noncomputable def t_m_draws : Bk (Sg × Int32) := (s_ldA 0 (s_lc 1103 (s_ldA 0 (s_getI 10 67 (s_i2l (s_lbin (fun x y => x * y) (s_lc 12345 (s_lbin (fun x y => x + y) (s_lc 1000003 (s_ldivr g_lrem (s_l2i (s_putI 10 67 (s_ldA 0 (s_getI 10 67 (s_ldI 1 (s_div g_rem (s_iret retI)))))))))))))))))
set_option maxRecDepth 20000 in
theorem e_m_draws (s : Sg) (l1 : Int32) : m_draws_G s l1 = t_m_draws [some (.inr (.inr (some (10, 0)))), some (.inl l1)] [] s := rfl
noncomputable def m_drawnAct_b78_G (c_m_canSwell : Sg → Int32 → Int32 → Option (Sg × Int32)) (s : Sg) (l1 : Int32) (l2 : Int32) (l3 : Int32) : Option Sg :=
  gif ((l3 : Int32) = 3) (
    (c_m_canSwell s l1 l2).bind fun q1 => (
    gif ((q1.2 : Int32) = 0) (
      some q1.1)
    (
      gd (inb (2 + l1) 5665) (
      let s2 := wI q1.1 43 0 (ix (2 + l1)) l2
      some s2))))
  (
    some s)
noncomputable def m_drawnAct_b78 : Sg → Int32 → Int32 → Int32 → Option Sg := m_drawnAct_b78_G m_canSwell
noncomputable def t_m_drawnAct_b78 (c_m_canSwell : Sg → Int32 → Int32 → Option (Sg × Int32)) : Bk Sg := (s_ldI 3 (s_ic 3 (s_ceq
  (s_ldA 0 (s_ldI 1 (s_ldI 2 (s_call (FW_m_canSwell c_m_canSwell) 3 (s_eq0
    (s_vret retV)
    (s_ldA 0 (s_getRc 10 2 43 0 (s_ic 2 (s_ldI 1 (s_bin (fun x y => x + y) (s_ldI 2 (s_iast 43 5665 (s_vret retV)))))))))))))
  (s_vret retV))))
set_option maxRecDepth 20000 in
theorem e_m_drawnAct_b78 (c_m_canSwell : Sg → Int32 → Int32 → Option (Sg × Int32)) (s : Sg) (l1 : Int32) (l2 : Int32) (l3 : Int32) : m_drawnAct_b78_G c_m_canSwell s l1 l2 l3 = t_m_drawnAct_b78 c_m_canSwell [some (.inr (.inr (some (10, 0)))), some (.inl l1), some (.inl l2), some (.inl l3)] [] s := rfl
noncomputable def m_drawnAct_b49_G (K78 : Sg → Int32 → Int32 → Int32 → Option Sg) (s : Sg) (l1 : Int32) (l2 : Int32) (l3 : Int32) : Option Sg :=
  gif ((l3 : Int32) = 2) (
    gd (inb (15 + l1) 5665) (
    gif ((0 : Int32) < (rI s 43 0 (ix (15 + l1)))) (
      gd (inb 1 5665) (
      gd (inb 1 5665) (
      let s1 := wI s 43 0 (ix 1) ((rI s 43 0 (ix 1)) ^^^ (1 <<< (l1 &&& 31)))
      K78 s1 l1 l2 l3)))
    (
      K78 s l1 l2 l3)))
  (
    K78 s l1 l2 l3)
noncomputable def m_drawnAct_b49 : Sg → Int32 → Int32 → Int32 → Option Sg := m_drawnAct_b49_G (m_drawnAct_b78)
noncomputable def t_m_drawnAct_b49 (K78 : Sg → Int32 → Int32 → Int32 → Option Sg) : Bk Sg := (s_ldI 3 (s_ic 2 (s_ceq
  (s_ldA 0 (s_getRc 10 2 43 0 (s_ic 15 (s_ldI 1 (s_bin (fun x y => x + y) (s_iald 43 5665 (s_gt0
    (s_ldA 0 (s_getRc 10 2 43 0 (s_ic 1 (s_dup2 (s_iald 43 5665 (s_ic 1 (s_ldI 1 (s_bin (fun x y => x <<< (y &&& 31)) (s_bin (fun x y => x ^^^ y) (s_iast 43 5665 (p_C 0 10 0 <| p_I 1 fun a1 => p_I 2 fun a2 => p_I 3 fun a3 => p_E fun s => K78 s a1 a2 a3)))))))))))
    (p_C 0 10 0 <| p_I 1 fun a1 => p_I 2 fun a2 => p_I 3 fun a3 => p_E fun s => K78 s a1 a2 a3))))))))
  (p_C 0 10 0 <| p_I 1 fun a1 => p_I 2 fun a2 => p_I 3 fun a3 => p_E fun s => K78 s a1 a2 a3))))
set_option maxRecDepth 20000 in
theorem e_m_drawnAct_b49 (K78 : Sg → Int32 → Int32 → Int32 → Option Sg) (s : Sg) (l1 : Int32) (l2 : Int32) (l3 : Int32) : m_drawnAct_b49_G K78 s l1 l2 l3 = t_m_drawnAct_b49 K78 [some (.inr (.inr (some (10, 0)))), some (.inl l1), some (.inl l2), some (.inl l3)] [] s := rfl
noncomputable def m_drawnAct_G (K49 : Sg → Int32 → Int32 → Int32 → Option Sg) (c_m_wordMany : Sg → Option (Sg × Int32)) (c_m_draws : Sg → Int32 → Option (Sg × Int32)) (c_m_isLast : Sg → Int32 → Option (Sg × Int32)) (s : Sg) : Option Sg :=
  (c_m_wordMany s).bind fun q1 => (
  (c_m_draws q1.1 q1.2).bind fun q2 => (
  (c_m_draws q2.1 20).bind fun q3 => (
  (c_m_draws q3.1 4).bind fun q4 => (
  gif ((q4.2 : Int32) < 2) (
    (c_m_isLast q4.1 q2.2).bind fun q5 => (
    gif ((q5.2 : Int32) = 0) (
      gd (inb 0 5665) (
      gd (inb 0 5665) (
      let s6 := wI q5.1 43 0 (ix 0) ((rI q5.1 43 0 (ix 0)) ^^^ (1 <<< (q2.2 &&& 31)))
      K49 s6 q2.2 (q3.2 + 1) q4.2)))
    (
      K49 q5.1 q2.2 (q3.2 + 1) q4.2)))
  (
    K49 q4.1 q2.2 (q3.2 + 1) q4.2)))))
noncomputable def m_drawnAct : Sg → Option Sg := m_drawnAct_G (m_drawnAct_b49) m_wordMany m_draws m_isLast
noncomputable def t_m_drawnAct (K49 : Sg → Int32 → Int32 → Int32 → Option Sg) (c_m_wordMany : Sg → Option (Sg × Int32)) (c_m_draws : Sg → Int32 → Option (Sg × Int32)) (c_m_isLast : Sg → Int32 → Option (Sg × Int32)) : Bk Sg := (s_ldA 0 (s_ldA 0 (s_call (FW_m_wordMany c_m_wordMany) 1 (s_call (FW_m_draws c_m_draws) 2 (s_stI 1 (s_ldA 0 (s_ic 20 (s_call (FW_m_draws c_m_draws) 2 (s_ic 1 (s_bin (fun x y => x + y) (s_stI 2 (s_ldA 0 (s_ic 4 (s_call (FW_m_draws c_m_draws) 2 (s_stI 3 (s_ldI 3 (s_ic 2 (s_clt
  (s_ldA 0 (s_ldI 1 (s_call (FW_m_isLast c_m_isLast) 2 (s_eq0
    (s_ldA 0 (s_getRc 10 2 43 0 (s_ic 0 (s_dup2 (s_iald 43 5665 (s_ic 1 (s_ldI 1 (s_bin (fun x y => x <<< (y &&& 31)) (s_bin (fun x y => x ^^^ y) (s_iast 43 5665 (p_C 0 10 0 <| p_I 1 fun a1 => p_I 2 fun a2 => p_I 3 fun a3 => p_E fun s => K49 s a1 a2 a3)))))))))))
    (p_C 0 10 0 <| p_I 1 fun a1 => p_I 2 fun a2 => p_I 3 fun a3 => p_E fun s => K49 s a1 a2 a3)))))
  (p_C 0 10 0 <| p_I 1 fun a1 => p_I 2 fun a2 => p_I 3 fun a3 => p_E fun s => K49 s a1 a2 a3)))))))))))))))))))
set_option maxRecDepth 20000 in
theorem e_m_drawnAct (K49 : Sg → Int32 → Int32 → Int32 → Option Sg) (c_m_wordMany : Sg → Option (Sg × Int32)) (c_m_draws : Sg → Int32 → Option (Sg × Int32)) (c_m_isLast : Sg → Int32 → Option (Sg × Int32)) (s : Sg) : m_drawnAct_G K49 c_m_wordMany c_m_draws c_m_isLast s = t_m_drawnAct K49 c_m_wordMany c_m_draws c_m_isLast [some (.inr (.inr (some (10, 0)))), none, none, none] [] s := rfl
noncomputable def m_weeks_b114_G (K114 : Sg → Int32 → Int32 → Option (Sg × Int32)) (c_m_takesBack : Sg → Int32 → Option Sg) (c_m_good : Sg → Int32 → Option (Sg × Int32)) (s : Sg) (l3 : Int32) (l4 : Int32) : Option (Sg × Int32) :=
  gif ((l4 : Int32) < 15) (
    gd (inb l4 5665) (
    gd (inb l4 15) (
    let s1 := wI s 73 0 (ix l4) (rI s 43 0 (ix l4))
    K114 s1 l3 (l4 + 1))))
  (
    (c_m_takesBack s 0).bind fun s2 => (
    (c_m_good s2 l3).bind fun q3 => (
    some (q3.1, q3.2))))
noncomputable def m_weeks_b114 : Nat → Sg → Int32 → Int32 → Option (Sg × Int32)
  | 0 => fun _ _ _ => none
  | n + 1 => m_weeks_b114_G (m_weeks_b114 n) m_takesBack m_good
noncomputable def t_m_weeks_b114 (K114 : Sg → Int32 → Int32 → Option (Sg × Int32)) (c_m_takesBack : Sg → Int32 → Option Sg) (c_m_good : Sg → Int32 → Option (Sg × Int32)) : Bk (Sg × Int32) := (s_ldI 4 (s_ic 15 (s_clt
  (s_ldA 0 (s_getRc 10 65 73 0 (s_ldI 4 (s_ldA 0 (s_getRc 10 2 43 0 (s_ldI 4 (s_iald 43 5665 (s_iast 73 15 (s_inc 4 1 (s_goto (p_C 0 10 0 <| p_I 3 fun a3 => p_I 4 fun a4 => p_E fun s => K114 s a3 a4)))))))))))
  (s_ldA 0 (s_ic 0 (s_call (FW_m_takesBack c_m_takesBack) 2 (s_ldA 0 (s_ldI 3 (s_call (FW_m_good c_m_good) 2 (s_iret retI))))))))))
set_option maxRecDepth 20000 in
theorem e_m_weeks_b114 (K114 : Sg → Int32 → Int32 → Option (Sg × Int32)) (c_m_takesBack : Sg → Int32 → Option Sg) (c_m_good : Sg → Int32 → Option (Sg × Int32)) (s : Sg) (l3 : Int32) (l4 : Int32) : m_weeks_b114_G K114 c_m_takesBack c_m_good s l3 l4 = t_m_weeks_b114 K114 c_m_takesBack c_m_good [some (.inr (.inr (some (10, 0)))), none, none, some (.inl l3), some (.inl l4)] [] s := rfl
noncomputable def m_weeks_b63_G (K63 : Sg → Int32 → Int32 → Int32 → Option (Sg × Int32)) (K114 : Sg → Int32 → Int32 → Option (Sg × Int32)) (c_m_drawnAct : Sg → Option Sg) (c_m_allOf : Sg → Int32 → Option (Sg × Int32)) (s : Sg) (l2 : Int32) (l3 : Int32) (l4 : Int32) : Option (Sg × Int32) :=
  gif ((l4 : Int32) < l2) (
    gd (inb 14 5665) (
    gif (((rI s 43 0 (ix 14)) : Int32) < 999) (
      (c_m_drawnAct s).bind fun s1 => (
      (c_m_allOf s1 2).bind fun q2 => (
      gd (inb 14 5665) (
      gd (inb 14 5665) (
      let s3 := wI q2.1 43 0 (ix 14) ((rI q2.1 43 0 (ix 14)) + 1)
      K63 s3 l2 (l3 + q2.2) (l4 + 1))))))
    (
      K114 s l3 0)))
  (
    K114 s l3 0)
noncomputable def m_weeks_b63 : Nat → Sg → Int32 → Int32 → Int32 → Option (Sg × Int32)
  | 0 => fun _ _ _ _ => none
  | n + 1 => m_weeks_b63_G (m_weeks_b63 n) (m_weeks_b114 FU) m_drawnAct m_allOf
noncomputable def t_m_weeks_b63 (K63 : Sg → Int32 → Int32 → Int32 → Option (Sg × Int32)) (K114 : Sg → Int32 → Int32 → Option (Sg × Int32)) (c_m_drawnAct : Sg → Option Sg) (c_m_allOf : Sg → Int32 → Option (Sg × Int32)) : Bk (Sg × Int32) := (s_ldI 4 (s_ldI 2 (s_clt
  (s_ldA 0 (s_getRc 10 2 43 0 (s_ic 14 (s_iald 43 5665 (s_ic 999 (s_clt
    (s_ldA 0 (s_call (FW_m_drawnAct c_m_drawnAct) 1 (s_ldI 3 (s_ldA 0 (s_ic 2 (s_call (FW_m_allOf c_m_allOf) 2 (s_bin (fun x y => x + y) (s_stI 3 (s_ldA 0 (s_getRc 10 2 43 0 (s_ic 14 (s_dup2 (s_iald 43 5665 (s_ic 1 (s_bin (fun x y => x + y) (s_iast 43 5665 (s_inc 4 1 (s_goto (p_C 0 10 0 <| p_I 2 fun a2 => p_I 3 fun a3 => p_I 4 fun a4 => p_E fun s => K63 s a2 a3 a4)))))))))))))))))))
    (s_ic 0 (s_stI 4 (p_C 0 10 0 <| p_I 3 fun a3 => p_I 4 fun a4 => p_E fun s => K114 s a3 a4)))))))))
  (s_ic 0 (s_stI 4 (p_C 0 10 0 <| p_I 3 fun a3 => p_I 4 fun a4 => p_E fun s => K114 s a3 a4))))))
set_option maxRecDepth 20000 in
theorem e_m_weeks_b63 (K63 : Sg → Int32 → Int32 → Int32 → Option (Sg × Int32)) (K114 : Sg → Int32 → Int32 → Option (Sg × Int32)) (c_m_drawnAct : Sg → Option Sg) (c_m_allOf : Sg → Int32 → Option (Sg × Int32)) (s : Sg) (l2 : Int32) (l3 : Int32) (l4 : Int32) : m_weeks_b63_G K63 K114 c_m_drawnAct c_m_allOf s l2 l3 l4 = t_m_weeks_b63 K63 K114 c_m_drawnAct c_m_allOf [some (.inr (.inr (some (10, 0)))), none, some (.inl l2), some (.inl l3), some (.inl l4)] [] s := rfl
noncomputable def m_weeks_G (K63 : Sg → Int32 → Int32 → Int32 → Option (Sg × Int32)) (c_m_lies : Sg → Int32 → Int32 → Int32 → Option (Sg × Int32)) (c_m_refuses : Sg → Int32 → Option (Sg × Int32)) (c_m_wordMany : Sg → Option (Sg × Int32)) (c_m_laysAside : Sg → Int32 → Option Sg) (s : Sg) (l1 : Int32) (l2 : Int32) : Option (Sg × Int32) :=
  (c_m_lies s l1 0 1000000).bind fun q1 => (
  gif ((q1.2 : Int32) = 0) (
    (c_m_refuses q1.1 (-1)).bind fun q2 => (
    some (q2.1, q2.2)))
  (
    (c_m_lies q1.1 l2 1 60).bind fun q3 => (
    gif ((q3.2 : Int32) = 0) (
      (c_m_refuses q3.1 (-1)).bind fun q4 => (
      some (q4.1, q4.2)))
    (
      (c_m_wordMany q3.1).bind fun q5 => (
      gif ((q5.2 : Int32) = 0) (
        (c_m_refuses q5.1 (-3)).bind fun q6 => (
        some (q6.1, q6.2)))
      (
        let s7 := wI q5.1 10 0 67 l1
        (c_m_wordMany s7).bind fun q8 => (
        let s9 := wI q8.1 10 0 66 q8.2
        (c_m_laysAside s9 0).bind fun s10 => (
        K63 s10 l2 0 0))))))))
noncomputable def m_weeks : Sg → Int32 → Int32 → Option (Sg × Int32) := m_weeks_G (m_weeks_b63 FU) m_lies m_refuses m_wordMany m_laysAside
noncomputable def t_m_weeks (K63 : Sg → Int32 → Int32 → Int32 → Option (Sg × Int32)) (c_m_lies : Sg → Int32 → Int32 → Int32 → Option (Sg × Int32)) (c_m_refuses : Sg → Int32 → Option (Sg × Int32)) (c_m_wordMany : Sg → Option (Sg × Int32)) (c_m_laysAside : Sg → Int32 → Option Sg) : Bk (Sg × Int32) := (s_ldI 1 (s_ic 0 (s_ic 1000000 (s_call (FW_m_lies c_m_lies) 3 (s_eq0
  (s_ldA 0 (s_ic (-1) (s_call (FW_m_refuses c_m_refuses) 2 (s_iret retI))))
  (s_ldI 2 (s_ic 1 (s_ic 60 (s_call (FW_m_lies c_m_lies) 3 (s_eq0
    (s_ldA 0 (s_ic (-1) (s_call (FW_m_refuses c_m_refuses) 2 (s_iret retI))))
    (s_ldA 0 (s_call (FW_m_wordMany c_m_wordMany) 1 (s_eq0
      (s_ldA 0 (s_ic (-3) (s_call (FW_m_refuses c_m_refuses) 2 (s_iret retI))))
      (s_ldA 0 (s_ldI 1 (s_putI 10 67 (s_ldA 0 (s_ldA 0 (s_call (FW_m_wordMany c_m_wordMany) 1 (s_putI 10 66 (s_ldA 0 (s_ic 0 (s_call (FW_m_laysAside c_m_laysAside) 2 (s_ic 0 (s_stI 3 (s_ic 0 (s_stI 4 (p_C 0 10 0 <| p_I 2 fun a2 => p_I 3 fun a3 => p_I 4 fun a4 => p_E fun s => K63 s a2 a3 a4))))))))))))))))))))))))))))
set_option maxRecDepth 20000 in
theorem e_m_weeks (K63 : Sg → Int32 → Int32 → Int32 → Option (Sg × Int32)) (c_m_lies : Sg → Int32 → Int32 → Int32 → Option (Sg × Int32)) (c_m_refuses : Sg → Int32 → Option (Sg × Int32)) (c_m_wordMany : Sg → Option (Sg × Int32)) (c_m_laysAside : Sg → Int32 → Option Sg) (s : Sg) (l1 : Int32) (l2 : Int32) : m_weeks_G K63 c_m_lies c_m_refuses c_m_wordMany c_m_laysAside s l1 l2 = t_m_weeks K63 c_m_lies c_m_refuses c_m_wordMany c_m_laysAside [some (.inr (.inr (some (10, 0)))), some (.inl l1), some (.inl l2), none, none] [] s := rfl
noncomputable def m_drawn_G (c_m_lies : Sg → Int32 → Int32 → Int32 → Option (Sg × Int32)) (c_m_isIn : Sg → Int32 → Int32 → Option (Sg × Int32)) (s : Sg) (l1 : Int32) (l2 : Int32) : Option (Sg × Int32) :=
  (c_m_lies s l1 0 ((rI s 10 0 66) - 1)).bind fun q1 => (
  gif ((q1.2 : Int32) = 0) (
    some (q1.1, (-1)))
  (
    gif ((l2 : Int32) = 0) (
      gd (inb (2 + l1) 15) (
      some (q1.1, (rI q1.1 73 0 (ix (2 + l1))))))
    (
    gif ((l2 : Int32) = 1) (
      gif ((l1 : Int32) = ((rI q1.1 10 0 66) - 1)) (
        some (q1.1, 1))
      (
        gd (inb 0 15) (
        (c_m_isIn q1.1 (rI q1.1 73 0 (ix 0)) l1).bind fun q2 => (
        gif ((q2.2 : Int32) = 0) (
          some (q2.1, 0))
        (
          some (q2.1, 1))))))
    (
    gif ((l2 : Int32) = 2) (
      gd (inb 1 15) (
      (c_m_isIn q1.1 (rI q1.1 73 0 (ix 1)) l1).bind fun q3 => (
      gif ((q3.2 : Int32) = 0) (
        some (q3.1, 0))
      (
        some (q3.1, 1)))))
    (
      some (q1.1, (-1)))))))
noncomputable def m_drawn : Sg → Int32 → Int32 → Option (Sg × Int32) := m_drawn_G m_lies m_isIn
noncomputable def t_m_drawn (c_m_lies : Sg → Int32 → Int32 → Int32 → Option (Sg × Int32)) (c_m_isIn : Sg → Int32 → Int32 → Option (Sg × Int32)) : Bk (Sg × Int32) := (s_ldI 1 (s_ic 0 (s_ldA 0 (s_getI 10 66 (s_ic 1 (s_bin (fun x y => x - y) (s_call (FW_m_lies c_m_lies) 3 (s_eq0
  (s_ic (-1) (s_iret retI))
  (s_ldI 2 (s_sw [(0, (s_ldA 0 (s_getRc 10 65 73 0 (s_ic 2 (s_ldI 1 (s_bin (fun x y => x + y) (s_iald 73 15 (s_iret retI)))))))),
    (1, (s_ldI 1 (s_ldA 0 (s_getI 10 66 (s_ic 1 (s_bin (fun x y => x - y) (s_ceq
      (s_ic 1 (s_goto (s_iret retI)))
      (s_ldA 0 (s_getRc 10 65 73 0 (s_ic 0 (s_iald 73 15 (s_ldI 1 (s_call (FW_m_isIn c_m_isIn) 2 (s_eq0
        (s_ic 0 (s_iret retI))
        (s_ic 1 (s_goto (s_iret retI))))))))))))))))),
    (2, (s_ldA 0 (s_getRc 10 65 73 0 (s_ic 1 (s_iald 73 15 (s_ldI 1 (s_call (FW_m_isIn c_m_isIn) 2 (s_eq0
      (s_ic 0 (s_iret retI))
      (s_ic 1 (s_goto (s_iret retI)))))))))))]
    (s_ic (-1) (s_iret retI))))))))))))
set_option maxRecDepth 20000 in
theorem e_m_drawn (c_m_lies : Sg → Int32 → Int32 → Int32 → Option (Sg × Int32)) (c_m_isIn : Sg → Int32 → Int32 → Option (Sg × Int32)) (s : Sg) (l1 : Int32) (l2 : Int32) : m_drawn_G c_m_lies c_m_isIn s l1 l2 = t_m_drawn c_m_lies c_m_isIn [some (.inr (.inr (some (10, 0)))), some (.inl l1), some (.inl l2)] [] s := rfl
noncomputable def m_count_G (c_m_wordMany : Sg → Option (Sg × Int32)) (c_m_settingLines : Sg → Option (Sg × Int32)) (c_m_allOf : Sg → Int32 → Option (Sg × Int32)) (c_m_termAt : Sg → Int32 → Option (Sg × Int32)) (s : Sg) (l1 : Int32) : Option (Sg × Int32) :=
  gif ((l1 : Int32) = 0) (
    (c_m_wordMany s).bind fun q1 => (
    some (q1.1, q1.2)))
  (
  gif ((l1 : Int32) = 1) (
    (c_m_settingLines s).bind fun q2 => (
    some (q2.1, q2.2)))
  (
  gif ((l1 : Int32) = 2) (
    (c_m_allOf s 2).bind fun q3 => (
    some (q3.1, q3.2)))
  (
  gif ((l1 : Int32) = 3) (
    gd (inb 55 5665) (
    some (s, (rI s 43 0 (ix 55)))))
  (
  gif ((l1 : Int32) = 4) (
    gd (inb 56 5665) (
    some (s, (rI s 43 0 (ix 56)))))
  (
  gif ((l1 : Int32) = 5) (
    some (s, (rI s 10 0 46)))
  (
  gif ((l1 : Int32) = 6) (
    some (s, (rI s 10 0 13)))
  (
  gif ((l1 : Int32) = 7) (
    gd (inb (l1 - 6) 7) (
    some (s, (rI s 42 0 (ix (l1 - 6))))))
  (
  gif ((l1 : Int32) = 8) (
    gd (inb (l1 - 6) 7) (
    some (s, (rI s 42 0 (ix (l1 - 6))))))
  (
  gif ((l1 : Int32) = 9) (
    gd (inb (l1 - 6) 7) (
    some (s, (rI s 42 0 (ix (l1 - 6))))))
  (
  gif ((l1 : Int32) = 10) (
    gd (inb 5 7) (
    some (s, (rI s 42 0 (ix 5)))))
  (
  gif ((l1 : Int32) = 11) (
    gd (inb 6 7) (
    some (s, (rI s 42 0 (ix 6)))))
  (
  gif ((l1 : Int32) = 12) (
    gd (inb 57 5665) (
    some (s, (rI s 43 0 (ix 57)))))
  (
  gif ((l1 : Int32) = 13) (
    (c_m_termAt s (l1 - 13)).bind fun q4 => (
    gd (inb q4.2 5665) (
    some (q4.1, (rI q4.1 43 0 (ix q4.2))))))
  (
  gif ((l1 : Int32) = 14) (
    (c_m_termAt s (l1 - 13)).bind fun q5 => (
    gd (inb q5.2 5665) (
    some (q5.1, (rI q5.1 43 0 (ix q5.2))))))
  (
  gif ((l1 : Int32) = 15) (
    (c_m_termAt s (l1 - 13)).bind fun q6 => (
    gd (inb q6.2 5665) (
    some (q6.1, (rI q6.1 43 0 (ix q6.2))))))
  (
  gif ((l1 : Int32) = 16) (
    (c_m_termAt s (l1 - 13)).bind fun q7 => (
    gd (inb q7.2 5665) (
    some (q7.1, (rI q7.1 43 0 (ix q7.2))))))
  (
    some (s, (-1)))))))))))))))))))
noncomputable def m_count : Sg → Int32 → Option (Sg × Int32) := m_count_G m_wordMany m_settingLines m_allOf m_termAt
noncomputable def t_m_count (c_m_wordMany : Sg → Option (Sg × Int32)) (c_m_settingLines : Sg → Option (Sg × Int32)) (c_m_allOf : Sg → Int32 → Option (Sg × Int32)) (c_m_termAt : Sg → Int32 → Option (Sg × Int32)) : Bk (Sg × Int32) := (s_ldI 1 (s_sw [(0, (s_ldA 0 (s_call (FW_m_wordMany c_m_wordMany) 1 (s_iret retI)))),
  (1, (s_ldA 0 (s_call (FW_m_settingLines c_m_settingLines) 1 (s_iret retI)))),
  (2, (s_ldA 0 (s_ic 2 (s_call (FW_m_allOf c_m_allOf) 2 (s_iret retI))))),
  (3, (s_ldA 0 (s_getRc 10 2 43 0 (s_ic 55 (s_iald 43 5665 (s_iret retI)))))),
  (4, (s_ldA 0 (s_getRc 10 2 43 0 (s_ic 56 (s_iald 43 5665 (s_iret retI)))))),
  (5, (s_ldA 0 (s_getI 10 46 (s_iret retI)))),
  (6, (s_ldA 0 (s_getI 10 13 (s_iret retI)))),
  (7, (s_ldA 0 (s_getRc 10 1 42 0 (s_ldI 1 (s_ic 6 (s_bin (fun x y => x - y) (s_iald 42 7 (s_iret retI)))))))),
  (8, (s_ldA 0 (s_getRc 10 1 42 0 (s_ldI 1 (s_ic 6 (s_bin (fun x y => x - y) (s_iald 42 7 (s_iret retI)))))))),
  (9, (s_ldA 0 (s_getRc 10 1 42 0 (s_ldI 1 (s_ic 6 (s_bin (fun x y => x - y) (s_iald 42 7 (s_iret retI)))))))),
  (10, (s_ldA 0 (s_getRc 10 1 42 0 (s_ic 5 (s_iald 42 7 (s_iret retI)))))),
  (11, (s_ldA 0 (s_getRc 10 1 42 0 (s_ic 6 (s_iald 42 7 (s_iret retI)))))),
  (12, (s_ldA 0 (s_getRc 10 2 43 0 (s_ic 57 (s_iald 43 5665 (s_iret retI)))))),
  (13, (s_ldA 0 (s_getRc 10 2 43 0 (s_ldI 1 (s_ic 13 (s_bin (fun x y => x - y) (s_call (FW_m_termAt c_m_termAt) 1 (s_iald 43 5665 (s_iret retI))))))))),
  (14, (s_ldA 0 (s_getRc 10 2 43 0 (s_ldI 1 (s_ic 13 (s_bin (fun x y => x - y) (s_call (FW_m_termAt c_m_termAt) 1 (s_iald 43 5665 (s_iret retI))))))))),
  (15, (s_ldA 0 (s_getRc 10 2 43 0 (s_ldI 1 (s_ic 13 (s_bin (fun x y => x - y) (s_call (FW_m_termAt c_m_termAt) 1 (s_iald 43 5665 (s_iret retI))))))))),
  (16, (s_ldA 0 (s_getRc 10 2 43 0 (s_ldI 1 (s_ic 13 (s_bin (fun x y => x - y) (s_call (FW_m_termAt c_m_termAt) 1 (s_iald 43 5665 (s_iret retI)))))))))]
  (s_ic (-1) (s_iret retI))))
set_option maxRecDepth 20000 in
theorem e_m_count (c_m_wordMany : Sg → Option (Sg × Int32)) (c_m_settingLines : Sg → Option (Sg × Int32)) (c_m_allOf : Sg → Int32 → Option (Sg × Int32)) (c_m_termAt : Sg → Int32 → Option (Sg × Int32)) (s : Sg) (l1 : Int32) : m_count_G c_m_wordMany c_m_settingLines c_m_allOf c_m_termAt s l1 = t_m_count c_m_wordMany c_m_settingLines c_m_allOf c_m_termAt [some (.inr (.inr (some (10, 0)))), some (.inl l1)] [] s := rfl
noncomputable def m_status_G (s : Sg) : Option (Sg × Int32) :=
  some (s, (rI s 10 0 0))
noncomputable def m_status : Sg → Option (Sg × Int32) := m_status_G
noncomputable def t_m_status : Bk (Sg × Int32) := (s_ldA 0 (s_getI 10 0 (s_iret retI)))
set_option maxRecDepth 20000 in
theorem e_m_status (s : Sg) : m_status_G s = t_m_status [some (.inr (.inr (some (10, 0))))] [] s := rfl
