noncomputable def m_splits_b169_G (K7 : Sg → Int32 → Int32 → Option Sg) (K169 : Sg → Int32 → Int32 → Int32 → Int32 → Option Sg) (c_m_isDigit : Sg → Int32 → Option (Sg × Int32)) (s : Sg) (l1 : Int32) (l3 : Int32) (l4 : Int32) (l5 : Int32) : Option Sg :=
  gif ((l5 : Int32) < l4) (
    (c_m_isDigit s l3).bind fun q1 => (
    gif ((q1.2 : Int32) = 0) (
      let s2 := wI q1.1 10 0 18 ((rI q1.1 10 0 18) + 1)
      K7 s2 l1 l4)
    (
      gd (inb (rI q1.1 10 0 18) 401) (
      gif ((1000000 : Int32) < (rI q1.1 51 0 (ix (rI q1.1 10 0 18)))) (
        gd (inb (rI q1.1 10 0 18) 401) (
        gd (inb (rI q1.1 10 0 18) 401) (
        let s3 := wI q1.1 51 0 (ix (rI q1.1 10 0 18)) (rI q1.1 51 0 (ix (rI q1.1 10 0 18)))
        K169 s3 l1 l3 l4 (l5 + 1))))
      (
        gd (inb (rI q1.1 10 0 18) 401) (
        gd (inb l5 400) (
        gd (inb (rI q1.1 10 0 18) 401) (
        let s4 := wI q1.1 51 0 (ix (rI q1.1 10 0 18)) (((10 * (rI q1.1 51 0 (ix (rI q1.1 10 0 18)))) + (rI q1.1 48 0 (ix l5))) - 48)
        K169 s4 l1 l3 l4 (l5 + 1)))))))))
  (
    let s5 := wI s 10 0 18 ((rI s 10 0 18) + 1)
    K7 s5 l1 l4)
noncomputable def m_splits_b169 (K7 : Sg → Int32 → Int32 → Option Sg) : Nat → Sg → Int32 → Int32 → Int32 → Int32 → Option Sg
  | 0 => fun _ _ _ _ _ => none
  | n + 1 => m_splits_b169_G K7 (m_splits_b169 K7 n) m_isDigit
noncomputable def t_m_splits_b169 (K7 : Sg → Int32 → Int32 → Option Sg) (K169 : Sg → Int32 → Int32 → Int32 → Int32 → Option Sg) (c_m_isDigit : Sg → Int32 → Option (Sg × Int32)) : Bk Sg := (s_ldI 5 (s_ldI 4 (s_clt
  (s_ldI 3 (s_call (FW_m_isDigit c_m_isDigit) 1 (s_eq0
    (s_ldA 0 (s_dup (s_getI 10 18 (s_ic 1 (s_bin (fun x y => x + y) (s_putI 10 18 (s_ldI 4 (s_stI 2 (s_goto (p_C 0 10 0 <| p_I 1 fun a1 => p_I 2 fun a2 => p_E fun s => K7 s a1 a2))))))))))
    (s_ldA 0 (s_getRc 10 16 51 0 (s_ldA 0 (s_getI 10 18 (s_ldA 0 (s_getRc 10 16 51 0 (s_ldA 0 (s_getI 10 18 (s_iald 51 401 (s_ic 1000000 (s_cgt
      (s_ldA 0 (s_getRc 10 16 51 0 (s_ldA 0 (s_getI 10 18 (s_iald 51 401 (s_goto (s_iast 51 401 (s_inc 5 1 (s_goto (p_C 0 10 0 <| p_I 1 fun a1 => p_I 3 fun a3 => p_I 4 fun a4 => p_I 5 fun a5 => p_E fun s => K169 s a1 a3 a4 a5))))))))))
      (s_ic 10 (s_ldA 0 (s_getRc 10 16 51 0 (s_ldA 0 (s_getI 10 18 (s_iald 51 401 (s_bin (fun x y => x * y) (s_ldA 0 (s_getRc 10 11 48 0 (s_ldI 5 (s_bald 48 400 (s_bin (fun x y => x + y) (s_ic 48 (s_bin (fun x y => x - y) (s_iast 51 401 (s_inc 5 1 (s_goto (p_C 0 10 0 <| p_I 1 fun a1 => p_I 3 fun a3 => p_I 4 fun a4 => p_I 5 fun a5 => p_E fun s => K169 s a1 a3 a4 a5))))))))))))))))))))))))))))))))
  (s_ldA 0 (s_dup (s_getI 10 18 (s_ic 1 (s_bin (fun x y => x + y) (s_putI 10 18 (s_ldI 4 (s_stI 2 (s_goto (p_C 0 10 0 <| p_I 1 fun a1 => p_I 2 fun a2 => p_E fun s => K7 s a1 a2)))))))))))))
set_option maxRecDepth 20000 in
theorem e_m_splits_b169 (K7 : Sg → Int32 → Int32 → Option Sg) (K169 : Sg → Int32 → Int32 → Int32 → Int32 → Option Sg) (c_m_isDigit : Sg → Int32 → Option (Sg × Int32)) (s : Sg) (l1 : Int32) (l3 : Int32) (l4 : Int32) (l5 : Int32) : m_splits_b169_G K7 K169 c_m_isDigit s l1 l3 l4 l5 = t_m_splits_b169 K7 K169 c_m_isDigit [some (.inr (.inr (some (10, 0)))), some (.inl l1), none, some (.inl l3), some (.inl l4), some (.inl l5)] [] s := rfl
noncomputable def m_splits_b100_G (K169 : Sg → Int32 → Int32 → Int32 → Int32 → Option Sg) (c_m_isSmall : Sg → Int32 → Option (Sg × Int32)) (c_m_wordOf : Sg → Int32 → Int32 → Option (Sg × Int32)) (c_m_isDigit : Sg → Int32 → Option (Sg × Int32)) (s : Sg) (l1 : Int32) (l2 : Int32) (l3 : Int32) (l4 : Int32) : Option Sg :=
  gd (inb (rI s 10 0 18) 401) (
  let s1 := wI s 52 0 (ix (rI s 10 0 18)) l2
  gd (inb (rI s1 10 0 18) 401) (
  let s2 := wI s1 51 0 (ix (rI s1 10 0 18)) 0
  (c_m_isSmall s2 l3).bind fun q3 => (
  gif ((q3.2 : Int32) = 0) (
    (c_m_isDigit q3.1 l3).bind fun q4 => (
    gif ((q4.2 : Int32) = 0) (
      gd (inb (rI s2 10 0 18) 401) (
      let s5 := wI q4.1 50 0 (ix (rI s2 10 0 18)) (100 + (l3 &&& 255))
      K169 s5 l1 l3 l4 l2))
    (
      gd (inb (rI s2 10 0 18) 401) (
      let s6 := wI q4.1 50 0 (ix (rI s2 10 0 18)) 50
      K169 s6 l1 l3 l4 l2))))
  (
    (c_m_wordOf q3.1 l2 l4).bind fun q7 => (
    gd (inb (rI s2 10 0 18) 401) (
    let s8 := wI q7.1 50 0 (ix (rI s2 10 0 18)) q7.2
    K169 s8 l1 l3 l4 l2))))))
noncomputable def m_splits_b100 (K7 : Sg → Int32 → Int32 → Option Sg) : Sg → Int32 → Int32 → Int32 → Int32 → Option Sg := m_splits_b100_G (m_splits_b169 K7 FU) m_isSmall m_wordOf m_isDigit
noncomputable def t_m_splits_b100 (K169 : Sg → Int32 → Int32 → Int32 → Int32 → Option Sg) (c_m_isSmall : Sg → Int32 → Option (Sg × Int32)) (c_m_wordOf : Sg → Int32 → Int32 → Option (Sg × Int32)) (c_m_isDigit : Sg → Int32 → Option (Sg × Int32)) : Bk Sg := (s_ldA 0 (s_getRc 10 17 52 0 (s_ldA 0 (s_getI 10 18 (s_ldI 2 (s_iast 52 401 (s_ldA 0 (s_getRc 10 16 51 0 (s_ldA 0 (s_getI 10 18 (s_ic 0 (s_iast 51 401 (s_ldA 0 (s_getRc 10 15 50 0 (s_ldA 0 (s_getI 10 18 (s_ldI 3 (s_call (FW_m_isSmall c_m_isSmall) 1 (s_eq0
  (s_ldI 3 (s_call (FW_m_isDigit c_m_isDigit) 1 (s_eq0
    (s_ic 100 (s_ldI 3 (s_ic 255 (s_bin (fun x y => x &&& y) (s_bin (fun x y => x + y) (s_iast 50 401 (s_ldI 2 (s_stI 5 (p_C 0 10 0 <| p_I 1 fun a1 => p_I 3 fun a3 => p_I 4 fun a4 => p_I 5 fun a5 => p_E fun s => K169 s a1 a3 a4 a5)))))))))
    (s_ic 50 (s_goto (s_iast 50 401 (s_ldI 2 (s_stI 5 (p_C 0 10 0 <| p_I 1 fun a1 => p_I 3 fun a3 => p_I 4 fun a4 => p_I 5 fun a5 => p_E fun s => K169 s a1 a3 a4 a5)))))))))
  (s_ldA 0 (s_ldI 2 (s_ldI 4 (s_call (FW_m_wordOf c_m_wordOf) 3 (s_goto (s_iast 50 401 (s_ldI 2 (s_stI 5 (p_C 0 10 0 <| p_I 1 fun a1 => p_I 3 fun a3 => p_I 4 fun a4 => p_I 5 fun a5 => p_E fun s => K169 s a1 a3 a4 a5))))))))))))))))))))))))))))
set_option maxRecDepth 20000 in
theorem e_m_splits_b100 (K169 : Sg → Int32 → Int32 → Int32 → Int32 → Option Sg) (c_m_isSmall : Sg → Int32 → Option (Sg × Int32)) (c_m_wordOf : Sg → Int32 → Int32 → Option (Sg × Int32)) (c_m_isDigit : Sg → Int32 → Option (Sg × Int32)) (s : Sg) (l1 : Int32) (l2 : Int32) (l3 : Int32) (l4 : Int32) : m_splits_b100_G K169 c_m_isSmall c_m_wordOf c_m_isDigit s l1 l2 l3 l4 = t_m_splits_b100 K169 c_m_isSmall c_m_wordOf c_m_isDigit [some (.inr (.inr (some (10, 0)))), some (.inl l1), some (.inl l2), some (.inl l3), some (.inl l4), none] [] s := rfl
noncomputable def m_splits_b75_G (K75 : Sg → Int32 → Int32 → Int32 → Int32 → Option Sg) (K100 : Sg → Int32 → Int32 → Int32 → Int32 → Option Sg) (c_m_isDigit : Sg → Int32 → Option (Sg × Int32)) (s : Sg) (l1 : Int32) (l2 : Int32) (l3 : Int32) (l4 : Int32) : Option Sg :=
  gif ((l4 : Int32) < l1) (
    gd (inb l4 400) (
    (c_m_isDigit s (rI s 48 0 (ix l4))).bind fun q1 => (
    gif ((q1.2 : Int32) = 0) (
      K100 q1.1 l1 l2 l3 l4)
    (
      K75 q1.1 l1 l2 l3 (l4 + 1)))))
  (
    K100 s l1 l2 l3 l4)
noncomputable def m_splits_b75 (K7 : Sg → Int32 → Int32 → Option Sg) : Nat → Sg → Int32 → Int32 → Int32 → Int32 → Option Sg
  | 0 => fun _ _ _ _ _ => none
  | n + 1 => m_splits_b75_G (m_splits_b75 K7 n) (m_splits_b100 K7) m_isDigit
noncomputable def t_m_splits_b75 (K75 : Sg → Int32 → Int32 → Int32 → Int32 → Option Sg) (K100 : Sg → Int32 → Int32 → Int32 → Int32 → Option Sg) (c_m_isDigit : Sg → Int32 → Option (Sg × Int32)) : Bk Sg := (s_ldI 4 (s_ldI 1 (s_clt
  (s_ldA 0 (s_getRc 10 11 48 0 (s_ldI 4 (s_bald 48 400 (s_call (FW_m_isDigit c_m_isDigit) 1 (s_eq0
    (p_C 0 10 0 <| p_I 1 fun a1 => p_I 2 fun a2 => p_I 3 fun a3 => p_I 4 fun a4 => p_E fun s => K100 s a1 a2 a3 a4)
    (s_inc 4 1 (s_goto (p_C 0 10 0 <| p_I 1 fun a1 => p_I 2 fun a2 => p_I 3 fun a3 => p_I 4 fun a4 => p_E fun s => K75 s a1 a2 a3 a4)))))))))
  (p_C 0 10 0 <| p_I 1 fun a1 => p_I 2 fun a2 => p_I 3 fun a3 => p_I 4 fun a4 => p_E fun s => K100 s a1 a2 a3 a4))))
set_option maxRecDepth 20000 in
theorem e_m_splits_b75 (K75 : Sg → Int32 → Int32 → Int32 → Int32 → Option Sg) (K100 : Sg → Int32 → Int32 → Int32 → Int32 → Option Sg) (c_m_isDigit : Sg → Int32 → Option (Sg × Int32)) (s : Sg) (l1 : Int32) (l2 : Int32) (l3 : Int32) (l4 : Int32) : m_splits_b75_G K75 K100 c_m_isDigit s l1 l2 l3 l4 = t_m_splits_b75 K75 K100 c_m_isDigit [some (.inr (.inr (some (10, 0)))), some (.inl l1), some (.inl l2), some (.inl l3), some (.inl l4), none] [] s := rfl
noncomputable def m_splits_b43_G (K43 : Sg → Int32 → Int32 → Int32 → Int32 → Option Sg) (K75 : Sg → Int32 → Int32 → Int32 → Int32 → Option Sg) (K100 : Sg → Int32 → Int32 → Int32 → Int32 → Option Sg) (c_m_isSmall : Sg → Int32 → Option (Sg × Int32)) (c_m_isDigit : Sg → Int32 → Option (Sg × Int32)) (s : Sg) (l1 : Int32) (l2 : Int32) (l3 : Int32) (l4 : Int32) : Option Sg :=
  gif ((l4 : Int32) < l1) (
    gd (inb l4 400) (
    (c_m_isSmall s (rI s 48 0 (ix l4))).bind fun q1 => (
    gif ((q1.2 : Int32) = 0) (
      (c_m_isDigit q1.1 l3).bind fun q2 => (
      gif ((q2.2 : Int32) = 0) (
        K100 q2.1 l1 l2 l3 l4)
      (
        K75 q2.1 l1 l2 l3 l4)))
    (
      K43 q1.1 l1 l2 l3 (l4 + 1)))))
  (
    (c_m_isDigit s l3).bind fun q3 => (
    gif ((q3.2 : Int32) = 0) (
      K100 q3.1 l1 l2 l3 l4)
    (
      K75 q3.1 l1 l2 l3 l4)))
noncomputable def m_splits_b43 (K7 : Sg → Int32 → Int32 → Option Sg) : Nat → Sg → Int32 → Int32 → Int32 → Int32 → Option Sg
  | 0 => fun _ _ _ _ _ => none
  | n + 1 => m_splits_b43_G (m_splits_b43 K7 n) (m_splits_b75 K7 FU) (m_splits_b100 K7) m_isSmall m_isDigit
noncomputable def t_m_splits_b43 (K43 : Sg → Int32 → Int32 → Int32 → Int32 → Option Sg) (K75 : Sg → Int32 → Int32 → Int32 → Int32 → Option Sg) (K100 : Sg → Int32 → Int32 → Int32 → Int32 → Option Sg) (c_m_isSmall : Sg → Int32 → Option (Sg × Int32)) (c_m_isDigit : Sg → Int32 → Option (Sg × Int32)) : Bk Sg := (s_ldI 4 (s_ldI 1 (s_clt
  (s_ldA 0 (s_getRc 10 11 48 0 (s_ldI 4 (s_bald 48 400 (s_call (FW_m_isSmall c_m_isSmall) 1 (s_eq0
    (s_ldI 3 (s_call (FW_m_isDigit c_m_isDigit) 1 (s_eq0
      (p_C 0 10 0 <| p_I 1 fun a1 => p_I 2 fun a2 => p_I 3 fun a3 => p_I 4 fun a4 => p_E fun s => K100 s a1 a2 a3 a4)
      (p_C 0 10 0 <| p_I 1 fun a1 => p_I 2 fun a2 => p_I 3 fun a3 => p_I 4 fun a4 => p_E fun s => K75 s a1 a2 a3 a4))))
    (s_inc 4 1 (s_goto (p_C 0 10 0 <| p_I 1 fun a1 => p_I 2 fun a2 => p_I 3 fun a3 => p_I 4 fun a4 => p_E fun s => K43 s a1 a2 a3 a4)))))))))
  (s_ldI 3 (s_call (FW_m_isDigit c_m_isDigit) 1 (s_eq0
    (p_C 0 10 0 <| p_I 1 fun a1 => p_I 2 fun a2 => p_I 3 fun a3 => p_I 4 fun a4 => p_E fun s => K100 s a1 a2 a3 a4)
    (p_C 0 10 0 <| p_I 1 fun a1 => p_I 2 fun a2 => p_I 3 fun a3 => p_I 4 fun a4 => p_E fun s => K75 s a1 a2 a3 a4)))))))
set_option maxRecDepth 20000 in
theorem e_m_splits_b43 (K43 : Sg → Int32 → Int32 → Int32 → Int32 → Option Sg) (K75 : Sg → Int32 → Int32 → Int32 → Int32 → Option Sg) (K100 : Sg → Int32 → Int32 → Int32 → Int32 → Option Sg) (c_m_isSmall : Sg → Int32 → Option (Sg × Int32)) (c_m_isDigit : Sg → Int32 → Option (Sg × Int32)) (s : Sg) (l1 : Int32) (l2 : Int32) (l3 : Int32) (l4 : Int32) : m_splits_b43_G K43 K75 K100 c_m_isSmall c_m_isDigit s l1 l2 l3 l4 = t_m_splits_b43 K43 K75 K100 c_m_isSmall c_m_isDigit [some (.inr (.inr (some (10, 0)))), some (.inl l1), some (.inl l2), some (.inl l3), some (.inl l4), none] [] s := rfl
noncomputable def m_splits_b7_G (K7 : Sg → Int32 → Int32 → Option Sg) (K43 : Sg → Int32 → Int32 → Int32 → Int32 → Option Sg) (K75 : Sg → Int32 → Int32 → Int32 → Int32 → Option Sg) (K100 : Sg → Int32 → Int32 → Int32 → Int32 → Option Sg) (c_m_isSmall : Sg → Int32 → Option (Sg × Int32)) (c_m_isDigit : Sg → Int32 → Option (Sg × Int32)) (s : Sg) (l1 : Int32) (l2 : Int32) : Option Sg :=
  gif ((l2 : Int32) < l1) (
    gd (inb l2 400) (
    gif (((rI s 48 0 (ix l2)) : Int32) = 32) (
      K7 s l1 (l2 + 1))
    (
      (c_m_isSmall s (rI s 48 0 (ix l2))).bind fun q1 => (
      gif ((q1.2 : Int32) = 0) (
        (c_m_isDigit q1.1 (rI s 48 0 (ix l2))).bind fun q2 => (
        gif ((q2.2 : Int32) = 0) (
          K100 q2.1 l1 l2 (rI s 48 0 (ix l2)) (l2 + 1))
        (
          K75 q2.1 l1 l2 (rI s 48 0 (ix l2)) (l2 + 1))))
      (
        K43 q1.1 l1 l2 (rI s 48 0 (ix l2)) (l2 + 1))))))
  (
    gd (inb (rI s 10 0 18) 401) (
    let s3 := wI s 52 0 (ix (rI s 10 0 18)) l1
    gd (inb (rI s3 10 0 18) 401) (
    let s4 := wI s3 50 0 (ix (rI s3 10 0 18)) 0
    gd (inb (rI s4 10 0 18) 401) (
    let s5 := wI s4 51 0 (ix (rI s4 10 0 18)) 0
    some s5))))
noncomputable def m_splits_b7 : Nat → Sg → Int32 → Int32 → Option Sg
  | 0 => fun _ _ _ => none
  | n + 1 => m_splits_b7_G (m_splits_b7 n) (m_splits_b43 (m_splits_b7 n) FU) (m_splits_b75 (m_splits_b7 n) FU) (m_splits_b100 (m_splits_b7 n)) m_isSmall m_isDigit
noncomputable def t_m_splits_b7 (K7 : Sg → Int32 → Int32 → Option Sg) (K43 : Sg → Int32 → Int32 → Int32 → Int32 → Option Sg) (K75 : Sg → Int32 → Int32 → Int32 → Int32 → Option Sg) (K100 : Sg → Int32 → Int32 → Int32 → Int32 → Option Sg) (c_m_isSmall : Sg → Int32 → Option (Sg × Int32)) (c_m_isDigit : Sg → Int32 → Option (Sg × Int32)) : Bk Sg := (s_ldI 2 (s_ldI 1 (s_clt
  (s_ldA 0 (s_getRc 10 11 48 0 (s_ldI 2 (s_bald 48 400 (s_stI 3 (s_ldI 3 (s_ic 32 (s_ceq
    (s_inc 2 1 (s_goto (p_C 0 10 0 <| p_I 1 fun a1 => p_I 2 fun a2 => p_E fun s => K7 s a1 a2)))
    (s_ldI 2 (s_ic 1 (s_bin (fun x y => x + y) (s_stI 4 (s_ldI 3 (s_call (FW_m_isSmall c_m_isSmall) 1 (s_eq0
      (s_ldI 3 (s_call (FW_m_isDigit c_m_isDigit) 1 (s_eq0
        (p_C 0 10 0 <| p_I 1 fun a1 => p_I 2 fun a2 => p_I 3 fun a3 => p_I 4 fun a4 => p_E fun s => K100 s a1 a2 a3 a4)
        (p_C 0 10 0 <| p_I 1 fun a1 => p_I 2 fun a2 => p_I 3 fun a3 => p_I 4 fun a4 => p_E fun s => K75 s a1 a2 a3 a4))))
      (p_C 0 10 0 <| p_I 1 fun a1 => p_I 2 fun a2 => p_I 3 fun a3 => p_I 4 fun a4 => p_E fun s => K43 s a1 a2 a3 a4))))))))))))))))
  (s_ldA 0 (s_getRc 10 17 52 0 (s_ldA 0 (s_getI 10 18 (s_ldI 1 (s_iast 52 401 (s_ldA 0 (s_getRc 10 15 50 0 (s_ldA 0 (s_getI 10 18 (s_ic 0 (s_iast 50 401 (s_ldA 0 (s_getRc 10 16 51 0 (s_ldA 0 (s_getI 10 18 (s_ic 0 (s_iast 51 401 (s_vret retV))))))))))))))))))))))
set_option maxRecDepth 20000 in
theorem e_m_splits_b7 (K7 : Sg → Int32 → Int32 → Option Sg) (K43 : Sg → Int32 → Int32 → Int32 → Int32 → Option Sg) (K75 : Sg → Int32 → Int32 → Int32 → Int32 → Option Sg) (K100 : Sg → Int32 → Int32 → Int32 → Int32 → Option Sg) (c_m_isSmall : Sg → Int32 → Option (Sg × Int32)) (c_m_isDigit : Sg → Int32 → Option (Sg × Int32)) (s : Sg) (l1 : Int32) (l2 : Int32) : m_splits_b7_G K7 K43 K75 K100 c_m_isSmall c_m_isDigit s l1 l2 = t_m_splits_b7 K7 K43 K75 K100 c_m_isSmall c_m_isDigit [some (.inr (.inr (some (10, 0)))), some (.inl l1), some (.inl l2), none, none, none] [] s := rfl
noncomputable def m_splits_G (K7 : Sg → Int32 → Int32 → Option Sg) (s : Sg) (l1 : Int32) : Option Sg :=
  let s1 := wI s 10 0 18 0
  K7 s1 l1 0
noncomputable def m_splits : Sg → Int32 → Option Sg := m_splits_G (m_splits_b7 FU)
noncomputable def t_m_splits (K7 : Sg → Int32 → Int32 → Option Sg) : Bk Sg := (s_ldA 0 (s_ic 0 (s_putI 10 18 (s_ic 0 (s_stI 2 (p_C 0 10 0 <| p_I 1 fun a1 => p_I 2 fun a2 => p_E fun s => K7 s a1 a2))))))
set_option maxRecDepth 20000 in
theorem e_m_splits (K7 : Sg → Int32 → Int32 → Option Sg) (s : Sg) (l1 : Int32) : m_splits_G K7 s l1 = t_m_splits K7 [some (.inr (.inr (some (10, 0)))), some (.inl l1), none, none, none, none] [] s := rfl
noncomputable def m_fine_G (s : Sg) : Option (Sg × Int32) :=
  gif (((rI s 10 0 21) : Int32) = (-1)) (
    gd (isB 1) (some (s, 1)))
  (
    gd (isB 0) (some (s, 0)))
noncomputable def m_fine : Sg → Option (Sg × Int32) := m_fine_G
noncomputable def t_m_fine : Bk (Sg × Int32) := (s_ldA 0 (s_getI 10 21 (s_ic (-1) (s_ceq
  (s_ic 1 (s_goto (s_zret retI)))
  (s_ic 0 (s_zret retI))))))
set_option maxRecDepth 20000 in
theorem e_m_fine (s : Sg) : m_fine_G s = t_m_fine [some (.inr (.inr (some (10, 0))))] [] s := rfl
noncomputable def m_faults_G (c_m_fine : Sg → Option (Sg × Int32)) (s : Sg) : Option Sg :=
  (c_m_fine s).bind fun q1 => (
  gif ((q1.2 : Int32) = 0) (
    some q1.1)
  (
    gd (inb (rI q1.1 10 0 19) 401) (
    let s2 := wI q1.1 10 0 21 (rI q1.1 52 0 (ix (rI q1.1 10 0 19)))
    some s2)))
noncomputable def m_faults : Sg → Option Sg := m_faults_G m_fine
noncomputable def t_m_faults (c_m_fine : Sg → Option (Sg × Int32)) : Bk Sg := (s_ldA 0 (s_call (FW_m_fine c_m_fine) 1 (s_eq0
  (s_vret retV)
  (s_ldA 0 (s_ldA 0 (s_getRc 10 17 52 0 (s_ldA 0 (s_getI 10 19 (s_iald 52 401 (s_putI 10 21 (s_vret retV)))))))))))
set_option maxRecDepth 20000 in
theorem e_m_faults (c_m_fine : Sg → Option (Sg × Int32)) (s : Sg) : m_faults_G c_m_fine s = t_m_faults c_m_fine [some (.inr (.inr (some (10, 0))))] [] s := rfl
noncomputable def m_tellsOp_G (c_m_fine : Sg → Option (Sg × Int32)) (s : Sg) (l1 : Int32) (l2 : Int32) : Option (Sg × Int32) :=
  (c_m_fine s).bind fun q1 => (
  gif ((q1.2 : Int32) = 0) (
    some (q1.1, 0))
  (
    gd (inb (rI q1.1 10 0 24) 800) (
    let s2 := wI q1.1 53 0 (ix (rI q1.1 10 0 24)) l1
    gd (inb (rI s2 10 0 24) 800) (
    let s3 := wI s2 54 0 (ix (rI s2 10 0 24)) l2
    let s4 := wI s3 10 0 24 ((rI s3 10 0 24) + 1)
    some (s4, ((rI s4 10 0 24) - 1))))))
noncomputable def m_tellsOp : Sg → Int32 → Int32 → Option (Sg × Int32) := m_tellsOp_G m_fine
noncomputable def t_m_tellsOp (c_m_fine : Sg → Option (Sg × Int32)) : Bk (Sg × Int32) := (s_ldA 0 (s_call (FW_m_fine c_m_fine) 1 (s_eq0
  (s_ic 0 (s_iret retI))
  (s_ldA 0 (s_getRc 10 22 53 0 (s_ldA 0 (s_getI 10 24 (s_ldI 1 (s_iast 53 800 (s_ldA 0 (s_getRc 10 23 54 0 (s_ldA 0 (s_getI 10 24 (s_ldI 2 (s_iast 54 800 (s_ldA 0 (s_dup (s_getI 10 24 (s_ic 1 (s_bin (fun x y => x + y) (s_putI 10 24 (s_ldA 0 (s_getI 10 24 (s_ic 1 (s_bin (fun x y => x - y) (s_iret retI))))))))))))))))))))))))))
set_option maxRecDepth 20000 in
theorem e_m_tellsOp (c_m_fine : Sg → Option (Sg × Int32)) (s : Sg) (l1 : Int32) (l2 : Int32) : m_tellsOp_G c_m_fine s l1 l2 = t_m_tellsOp c_m_fine [some (.inr (.inr (some (10, 0)))), some (.inl l1), some (.inl l2)] [] s := rfl
noncomputable def m_takes0_G (c_m_fine : Sg → Option (Sg × Int32)) (s : Sg) (l1 : Int32) : Option (Sg × Int32) :=
  (c_m_fine s).bind fun q1 => (
  gif ((q1.2 : Int32) = 0) (
    gif ((0 : Int32) = 0) (
      gd (isB 0) (some (q1.1, 0)))
    (
      let s2 := wI q1.1 10 0 19 ((rI q1.1 10 0 19) + 1)
      gd (isB 0) (some (s2, 0))))
  (
    gd (inb (rI q1.1 10 0 19) 401) (
    gif (((rI q1.1 50 0 (ix (rI q1.1 10 0 19))) : Int32) = l1) (
      gif ((1 : Int32) = 0) (
        gd (isB 1) (some (q1.1, 1)))
      (
        let s3 := wI q1.1 10 0 19 ((rI q1.1 10 0 19) + 1)
        gd (isB 1) (some (s3, 1))))
    (
      gif ((0 : Int32) = 0) (
        gd (isB 0) (some (q1.1, 0)))
      (
        let s4 := wI q1.1 10 0 19 ((rI q1.1 10 0 19) + 1)
        gd (isB 0) (some (s4, 0)))))))
noncomputable def m_takes0 : Sg → Int32 → Option (Sg × Int32) := m_takes0_G m_fine
noncomputable def t_m_takes0 (c_m_fine : Sg → Option (Sg × Int32)) : Bk (Sg × Int32) := (s_ldA 0 (s_call (FW_m_fine c_m_fine) 1 (s_eq0
  (s_ic 0 (s_stI 2 (s_ldI 2 (s_eq0
    (s_ldI 2 (s_zret retI))
    (s_ldA 0 (s_dup (s_getI 10 19 (s_ic 1 (s_bin (fun x y => x + y) (s_putI 10 19 (s_ldI 2 (s_zret retI))))))))))))
  (s_ldA 0 (s_getRc 10 15 50 0 (s_ldA 0 (s_getI 10 19 (s_iald 50 401 (s_ldI 1 (s_ceq
    (s_ic 1 (s_goto (s_stI 2 (s_ldI 2 (s_eq0
      (s_ldI 2 (s_zret retI))
      (s_ldA 0 (s_dup (s_getI 10 19 (s_ic 1 (s_bin (fun x y => x + y) (s_putI 10 19 (s_ldI 2 (s_zret retI)))))))))))))
    (s_ic 0 (s_stI 2 (s_ldI 2 (s_eq0
      (s_ldI 2 (s_zret retI))
      (s_ldA 0 (s_dup (s_getI 10 19 (s_ic 1 (s_bin (fun x y => x + y) (s_putI 10 19 (s_ldI 2 (s_zret retI))))))))))))))))))))))
set_option maxRecDepth 20000 in
theorem e_m_takes0 (c_m_fine : Sg → Option (Sg × Int32)) (s : Sg) (l1 : Int32) : m_takes0_G c_m_fine s l1 = t_m_takes0 c_m_fine [some (.inr (.inr (some (10, 0)))), some (.inl l1), none] [] s := rfl
noncomputable def m_must_G (c_m_takes0 : Sg → Int32 → Option (Sg × Int32)) (c_m_faults : Sg → Option Sg) (s : Sg) (l1 : Int32) : Option Sg :=
  (c_m_takes0 s l1).bind fun q1 => (
  gif ((q1.2 : Int32) = 0) (
    (c_m_faults q1.1).bind fun s2 => (
    some s2))
  (
    some q1.1))
noncomputable def m_must : Sg → Int32 → Option Sg := m_must_G m_takes0 m_faults
noncomputable def t_m_must (c_m_takes0 : Sg → Int32 → Option (Sg × Int32)) (c_m_faults : Sg → Option Sg) : Bk Sg := (s_ldA 0 (s_ldI 1 (s_call (FW_m_takes0 c_m_takes0) 2 (s_eq0
  (s_ldA 0 (s_call (FW_m_faults c_m_faults) 1 (s_vret retV)))
  (s_vret retV)))))
set_option maxRecDepth 20000 in
theorem e_m_must (c_m_takes0 : Sg → Int32 → Option (Sg × Int32)) (c_m_faults : Sg → Option Sg) (s : Sg) (l1 : Int32) : m_must_G c_m_takes0 c_m_faults s l1 = t_m_must c_m_takes0 c_m_faults [some (.inr (.inr (some (10, 0)))), some (.inl l1)] [] s := rfl
noncomputable def m_leaf_b13_G (c_m_fine : Sg → Option (Sg × Int32)) (s : Sg) : Option Sg :=
  let s1 := wI s 10 0 20 ((rI s 10 0 20) + 1)
  (c_m_fine s1).bind fun q2 => (
  gif ((q2.2 : Int32) = 0) (
    some q2.1)
  (
    let s3 := wI q2.1 10 0 19 ((rI q2.1 10 0 19) + 1)
    some s3))
noncomputable def m_leaf_b13 : Sg → Option Sg := m_leaf_b13_G m_fine
noncomputable def t_m_leaf_b13 (c_m_fine : Sg → Option (Sg × Int32)) : Bk Sg := (s_ldA 0 (s_dup (s_getI 10 20 (s_ic 1 (s_bin (fun x y => x + y) (s_putI 10 20 (s_ldA 0 (s_call (FW_m_fine c_m_fine) 1 (s_eq0
  (s_vret retV)
  (s_ldA 0 (s_dup (s_getI 10 19 (s_ic 1 (s_bin (fun x y => x + y) (s_putI 10 19 (s_vret retV))))))))))))))))
set_option maxRecDepth 20000 in
theorem e_m_leaf_b13 (c_m_fine : Sg → Option (Sg × Int32)) (s : Sg) : m_leaf_b13_G c_m_fine s = t_m_leaf_b13 c_m_fine [some (.inr (.inr (some (10, 0))))] [] s := rfl
noncomputable def m_leaf_G (K13 : Sg → Option Sg) (c_m_faults : Sg → Option Sg) (s : Sg) : Option Sg :=
  gif (((rI s 10 0 20) : Int32) = 50) (
    (c_m_faults s).bind fun s1 => (
    K13 s1))
  (
    K13 s)
noncomputable def m_leaf : Sg → Option Sg := m_leaf_G (m_leaf_b13) m_faults
noncomputable def t_m_leaf (K13 : Sg → Option Sg) (c_m_faults : Sg → Option Sg) : Bk Sg := (s_ldA 0 (s_getI 10 20 (s_ic 50 (s_ceq
  (s_ldA 0 (s_call (FW_m_faults c_m_faults) 1 (p_C 0 10 0 <| p_E fun s => K13 s)))
  (p_C 0 10 0 <| p_E fun s => K13 s)))))
set_option maxRecDepth 20000 in
theorem e_m_leaf (K13 : Sg → Option Sg) (c_m_faults : Sg → Option Sg) (s : Sg) : m_leaf_G K13 c_m_faults s = t_m_leaf K13 c_m_faults [some (.inr (.inr (some (10, 0))))] [] s := rfl
noncomputable def m_sign_G (s : Sg) (l0 : Int32) : Option (Sg × Int32) :=
  some (s, (100 + l0))
noncomputable def m_sign : Sg → Int32 → Option (Sg × Int32) := m_sign_G
noncomputable def t_m_sign : Bk (Sg × Int32) := (s_ic 100 (s_ldI 0 (s_bin (fun x y => x + y) (s_iret retI))))
set_option maxRecDepth 20000 in
theorem e_m_sign (s : Sg) (l0 : Int32) : m_sign_G s l0 = t_m_sign [some (.inl l0)] [] s := rfl
noncomputable def m_mustNumber_G (c_m_fine : Sg → Option (Sg × Int32)) (c_m_lies : Sg → Int32 → Int32 → Int32 → Option (Sg × Int32)) (c_m_faults : Sg → Option Sg) (s : Sg) (l1 : Int32) (l2 : Int32) : Option Sg :=
  (c_m_fine s).bind fun q1 => (
  gif ((q1.2 : Int32) = 0) (
    (c_m_fine q1.1).bind fun q2 => (
    gif ((q2.2 : Int32) = 0) (
      some q2.1)
    (
      let s3 := wI q2.1 10 0 19 ((rI q2.1 10 0 19) + 1)
      some s3)))
  (
    gd (inb (rI q1.1 10 0 19) 401) (
    gif (((rI q1.1 50 0 (ix (rI q1.1 10 0 19))) : Int32) = 50) (
      gd (inb (rI q1.1 10 0 19) 401) (
      (c_m_lies q1.1 (rI q1.1 51 0 (ix (rI q1.1 10 0 19))) l1 l2).bind fun q4 => (
      gif ((q4.2 : Int32) = 0) (
        (c_m_faults q4.1).bind fun s5 => (
        (c_m_fine s5).bind fun q6 => (
        gif ((q6.2 : Int32) = 0) (
          some q6.1)
        (
          let s7 := wI q6.1 10 0 19 ((rI q6.1 10 0 19) + 1)
          some s7))))
      (
        (c_m_fine q4.1).bind fun q8 => (
        gif ((q8.2 : Int32) = 0) (
          some q8.1)
        (
          let s9 := wI q8.1 10 0 19 ((rI q8.1 10 0 19) + 1)
          some s9))))))
    (
      (c_m_faults q1.1).bind fun s10 => (
      (c_m_fine s10).bind fun q11 => (
      gif ((q11.2 : Int32) = 0) (
        some q11.1)
      (
        let s12 := wI q11.1 10 0 19 ((rI q11.1 10 0 19) + 1)
        some s12)))))))
noncomputable def m_mustNumber : Sg → Int32 → Int32 → Option Sg := m_mustNumber_G m_fine m_lies m_faults
noncomputable def t_m_mustNumber (c_m_fine : Sg → Option (Sg × Int32)) (c_m_lies : Sg → Int32 → Int32 → Int32 → Option (Sg × Int32)) (c_m_faults : Sg → Option Sg) : Bk Sg := (s_ldA 0 (s_call (FW_m_fine c_m_fine) 1 (s_eq0
  (s_ldA 0 (s_call (FW_m_fine c_m_fine) 1 (s_eq0
    (s_vret retV)
    (s_ldA 0 (s_dup (s_getI 10 19 (s_ic 1 (s_bin (fun x y => x + y) (s_putI 10 19 (s_vret retV))))))))))
  (s_ldA 0 (s_getRc 10 15 50 0 (s_ldA 0 (s_getI 10 19 (s_iald 50 401 (s_ic 50 (s_ceq
    (s_ldA 0 (s_getRc 10 16 51 0 (s_ldA 0 (s_getI 10 19 (s_iald 51 401 (s_ldI 1 (s_ldI 2 (s_call (FW_m_lies c_m_lies) 3 (s_eq0
      (s_ldA 0 (s_call (FW_m_faults c_m_faults) 1 (s_ldA 0 (s_call (FW_m_fine c_m_fine) 1 (s_eq0
        (s_vret retV)
        (s_ldA 0 (s_dup (s_getI 10 19 (s_ic 1 (s_bin (fun x y => x + y) (s_putI 10 19 (s_vret retV))))))))))))
      (s_ldA 0 (s_call (FW_m_fine c_m_fine) 1 (s_eq0
        (s_vret retV)
        (s_ldA 0 (s_dup (s_getI 10 19 (s_ic 1 (s_bin (fun x y => x + y) (s_putI 10 19 (s_vret retV)))))))))))))))))))
    (s_ldA 0 (s_call (FW_m_faults c_m_faults) 1 (s_ldA 0 (s_call (FW_m_fine c_m_fine) 1 (s_eq0
      (s_vret retV)
      (s_ldA 0 (s_dup (s_getI 10 19 (s_ic 1 (s_bin (fun x y => x + y) (s_putI 10 19 (s_vret retV))))))))))))))))))))))
set_option maxRecDepth 20000 in
theorem e_m_mustNumber (c_m_fine : Sg → Option (Sg × Int32)) (c_m_lies : Sg → Int32 → Int32 → Int32 → Option (Sg × Int32)) (c_m_faults : Sg → Option Sg) (s : Sg) (l1 : Int32) (l2 : Int32) : m_mustNumber_G c_m_fine c_m_lies c_m_faults s l1 l2 = t_m_mustNumber c_m_fine c_m_lies c_m_faults [some (.inr (.inr (some (10, 0)))), some (.inl l1), some (.inl l2)] [] s := rfl
noncomputable def m_readPart_b111_G (c_m_tellsOp : Sg → Int32 → Int32 → Option (Sg × Int32)) (c_m_leaf : Sg → Option Sg) (c_m_mustNumber : Sg → Int32 → Int32 → Option Sg) (s : Sg) (l2 : Int32) : Option Sg :=
  gd (inb (rI s 10 0 19) 401) (
  (c_m_tellsOp s l2 (rI s 51 0 (ix (rI s 10 0 19)))).bind fun q1 => (
  (c_m_leaf q1.1).bind fun s2 => (
  gif (((rI s2 10 0 10) : Int32) = 0) (
    some s2)
  (
    gif ((l2 : Int32) = 20) (
      (c_m_mustNumber s2 0 11).bind fun s3 => (
      some s3))
    (
      gif ((l2 : Int32) = 21) (
        (c_m_mustNumber s2 0 11).bind fun s4 => (
        some s4))
      (
        some s2))))))
noncomputable def m_readPart_b111 (rs : Sg → Int32 → Option Sg) : Sg → Int32 → Option Sg := m_readPart_b111_G m_tellsOp m_leaf m_mustNumber
noncomputable def t_m_readPart_b111 (c_m_tellsOp : Sg → Int32 → Int32 → Option (Sg × Int32)) (c_m_leaf : Sg → Option Sg) (c_m_mustNumber : Sg → Int32 → Int32 → Option Sg) : Bk Sg := (s_ldA 0 (s_ldI 2 (s_ldA 0 (s_getRc 10 16 51 0 (s_ldA 0 (s_getI 10 19 (s_iald 51 401 (s_call (FW_m_tellsOp c_m_tellsOp) 3 (s_pop (s_ldA 0 (s_call (FW_m_leaf c_m_leaf) 1 (s_ldA 0 (s_getI 10 10 (s_eq0
  (s_vret retV)
  (s_ldI 2 (s_ic 20 (s_ceq
    (s_ldA 0 (s_ic 0 (s_ic 11 (s_call (FW_m_mustNumber c_m_mustNumber) 3 (s_goto (s_vret retV))))))
    (s_ldI 2 (s_ic 21 (s_ceq
      (s_ldA 0 (s_ic 0 (s_ic 11 (s_call (FW_m_mustNumber c_m_mustNumber) 3 (s_goto (s_vret retV))))))
      (s_vret retV)))))))))))))))))))))
set_option maxRecDepth 20000 in
theorem e_m_readPart_b111 (c_m_tellsOp : Sg → Int32 → Int32 → Option (Sg × Int32)) (c_m_leaf : Sg → Option Sg) (c_m_mustNumber : Sg → Int32 → Int32 → Option Sg) (s : Sg) (l2 : Int32) : m_readPart_b111_G c_m_tellsOp c_m_leaf c_m_mustNumber s l2 = t_m_readPart_b111 c_m_tellsOp c_m_leaf c_m_mustNumber [some (.inr (.inr (some (10, 0)))), none, some (.inl l2)] [] s := rfl
noncomputable def m_readPart_b37_G (c_m_fine : Sg → Option (Sg × Int32)) (c_m_readSum : Sg → Int32 → Option Sg) (c_m_sign : Sg → Int32 → Option (Sg × Int32)) (c_m_must : Sg → Int32 → Option Sg) (s : Sg) (l1 : Int32) : Option Sg :=
  (c_m_fine s).bind fun q1 => (
  gif ((q1.2 : Int32) = 0) (
    some q1.1)
  (
    let s2 := wI q1.1 10 0 19 ((rI q1.1 10 0 19) + 1)
    (c_m_readSum s2 (l1 + 1)).bind fun s3 => (
    (c_m_sign s3 93).bind fun q4 => (
    (c_m_must q4.1 q4.2).bind fun s5 => (
    some s5)))))
noncomputable def m_readPart_b37 (rs : Sg → Int32 → Option Sg) : Sg → Int32 → Option Sg := m_readPart_b37_G m_fine rs m_sign m_must
noncomputable def t_m_readPart_b37 (c_m_fine : Sg → Option (Sg × Int32)) (c_m_readSum : Sg → Int32 → Option Sg) (c_m_sign : Sg → Int32 → Option (Sg × Int32)) (c_m_must : Sg → Int32 → Option Sg) : Bk Sg := (s_ldA 0 (s_call (FW_m_fine c_m_fine) 1 (s_eq0
  (s_vret retV)
  (s_ldA 0 (s_dup (s_getI 10 19 (s_ic 1 (s_bin (fun x y => x + y) (s_putI 10 19 (s_ldA 0 (s_ldI 1 (s_ic 1 (s_bin (fun x y => x + y) (s_call (FW_m_readSum c_m_readSum) 2 (s_ldA 0 (s_ic 93 (s_call (FW_m_sign c_m_sign) 1 (s_call (FW_m_must c_m_must) 2 (s_goto (s_vret retV))))))))))))))))))))
set_option maxRecDepth 20000 in
theorem e_m_readPart_b37 (c_m_fine : Sg → Option (Sg × Int32)) (c_m_readSum : Sg → Int32 → Option Sg) (c_m_sign : Sg → Int32 → Option (Sg × Int32)) (c_m_must : Sg → Int32 → Option Sg) (s : Sg) (l1 : Int32) : m_readPart_b37_G c_m_fine c_m_readSum c_m_sign c_m_must s l1 = t_m_readPart_b37 c_m_fine c_m_readSum c_m_sign c_m_must [some (.inr (.inr (some (10, 0)))), some (.inl l1), none] [] s := rfl
noncomputable def m_readPart_G (K37 : Sg → Int32 → Option Sg) (K111 : Sg → Int32 → Option Sg) (c_m_fine : Sg → Option (Sg × Int32)) (c_m_sign : Sg → Int32 → Option (Sg × Int32)) (c_m_faults : Sg → Option Sg) (s : Sg) (l1 : Int32) : Option Sg :=
  (c_m_fine s).bind fun q1 => (
  gif ((q1.2 : Int32) = 0) (
    some q1.1)
  (
    gd (inb (rI q1.1 10 0 19) 401) (
    (c_m_sign q1.1 91).bind fun q2 => (
    gif (((rI q1.1 50 0 (ix (rI q1.1 10 0 19))) : Int32) = q2.2) (
      gif ((l1 : Int32) = 8) (
        (c_m_faults q2.1).bind fun s3 => (
        K37 s3 l1))
      (
        K37 q2.1 l1))
    (
      gif (((rI q1.1 50 0 (ix (rI q1.1 10 0 19))) : Int32) = 50) (
        gd (inb (rI q2.1 10 0 19) 401) (
        gif ((1000 : Int32) < (rI q2.1 51 0 (ix (rI q2.1 10 0 19)))) (
          gif (((rI q1.1 50 0 (ix (rI q1.1 10 0 19))) : Int32) < (rI q2.1 10 0 8)) (
            (c_m_faults q2.1).bind fun s4 => (
            some s4))
          (
            gif (((rI q2.1 10 0 9) : Int32) < (rI q1.1 50 0 (ix (rI q1.1 10 0 19)))) (
              (c_m_faults q2.1).bind fun s5 => (
              some s5))
            (
              K111 q2.1 (rI q1.1 50 0 (ix (rI q1.1 10 0 19))))))
        (
          K111 q2.1 (rI q1.1 50 0 (ix (rI q1.1 10 0 19))))))
      (
        gif (((rI q1.1 50 0 (ix (rI q1.1 10 0 19))) : Int32) < (rI q2.1 10 0 8)) (
          (c_m_faults q2.1).bind fun s6 => (
          some s6))
        (
          gif (((rI q2.1 10 0 9) : Int32) < (rI q1.1 50 0 (ix (rI q1.1 10 0 19)))) (
            (c_m_faults q2.1).bind fun s7 => (
            some s7))
          (
            K111 q2.1 (rI q1.1 50 0 (ix (rI q1.1 10 0 19)))))))))))
noncomputable def m_readPart (rs : Sg → Int32 → Option Sg) : Sg → Int32 → Option Sg := m_readPart_G (m_readPart_b37 rs) (m_readPart_b111 rs) m_fine m_sign m_faults
noncomputable def t_m_readPart (K37 : Sg → Int32 → Option Sg) (K111 : Sg → Int32 → Option Sg) (c_m_fine : Sg → Option (Sg × Int32)) (c_m_sign : Sg → Int32 → Option (Sg × Int32)) (c_m_faults : Sg → Option Sg) : Bk Sg := (s_ldA 0 (s_call (FW_m_fine c_m_fine) 1 (s_eq0
  (s_vret retV)
  (s_ldA 0 (s_getRc 10 15 50 0 (s_ldA 0 (s_getI 10 19 (s_iald 50 401 (s_stI 2 (s_ldI 2 (s_ic 91 (s_call (FW_m_sign c_m_sign) 1 (s_ceq
    (s_ldI 1 (s_ic 8 (s_ceq
      (s_ldA 0 (s_call (FW_m_faults c_m_faults) 1 (p_C 0 10 0 <| p_I 1 fun a1 => p_E fun s => K37 s a1)))
      (p_C 0 10 0 <| p_I 1 fun a1 => p_E fun s => K37 s a1))))
    (s_ldI 2 (s_ic 50 (s_ceq
      (s_ldA 0 (s_getRc 10 16 51 0 (s_ldA 0 (s_getI 10 19 (s_iald 51 401 (s_ic 1000 (s_cgt
        (s_ldI 2 (s_ldA 0 (s_getI 10 8 (s_clt
          (s_ldA 0 (s_call (FW_m_faults c_m_faults) 1 (s_vret retV)))
          (s_ldI 2 (s_ldA 0 (s_getI 10 9 (s_cgt
            (s_ldA 0 (s_call (FW_m_faults c_m_faults) 1 (s_vret retV)))
            (p_C 0 10 0 <| p_I 2 fun a2 => p_E fun s => K111 s a2)))))))))
        (p_C 0 10 0 <| p_I 2 fun a2 => p_E fun s => K111 s a2))))))))
      (s_ldI 2 (s_ldA 0 (s_getI 10 8 (s_clt
        (s_ldA 0 (s_call (FW_m_faults c_m_faults) 1 (s_vret retV)))
        (s_ldI 2 (s_ldA 0 (s_getI 10 9 (s_cgt
          (s_ldA 0 (s_call (FW_m_faults c_m_faults) 1 (s_vret retV)))
          (p_C 0 10 0 <| p_I 2 fun a2 => p_E fun s => K111 s a2)))))))))))))))))))))))))
set_option maxRecDepth 20000 in
theorem e_m_readPart (K37 : Sg → Int32 → Option Sg) (K111 : Sg → Int32 → Option Sg) (c_m_fine : Sg → Option (Sg × Int32)) (c_m_sign : Sg → Int32 → Option (Sg × Int32)) (c_m_faults : Sg → Option Sg) (s : Sg) (l1 : Int32) : m_readPart_G K37 K111 c_m_fine c_m_sign c_m_faults s l1 = t_m_readPart K37 K111 c_m_fine c_m_sign c_m_faults [some (.inr (.inr (some (10, 0)))), some (.inl l1), none] [] s := rfl
noncomputable def m_readTerm_b41_G (K5 : Sg → Int32 → Option Sg) (c_m_readPart : Sg → Int32 → Option Sg) (c_m_tellsOp : Sg → Int32 → Int32 → Option (Sg × Int32)) (s : Sg) (l1 : Int32) : Option Sg :=
  gd (inb ((rI s 10 0 19) - 1) 401) (
  (c_m_readPart s l1).bind fun s1 => (
  (c_m_tellsOp s1 (rI s 50 0 (ix ((rI s 10 0 19) - 1))) 0).bind fun q2 => (
  K5 q2.1 l1)))
noncomputable def m_readTerm_b41 (rs : Sg → Int32 → Option Sg) (K5 : Sg → Int32 → Option Sg) : Sg → Int32 → Option Sg := m_readTerm_b41_G K5 (m_readPart rs) m_tellsOp
noncomputable def t_m_readTerm_b41 (K5 : Sg → Int32 → Option Sg) (c_m_readPart : Sg → Int32 → Option Sg) (c_m_tellsOp : Sg → Int32 → Int32 → Option (Sg × Int32)) : Bk Sg := (s_ldA 0 (s_getRc 10 15 50 0 (s_ldA 0 (s_getI 10 19 (s_ic 1 (s_bin (fun x y => x - y) (s_iald 50 401 (s_stI 2 (s_ldA 0 (s_ldI 1 (s_call (FW_m_readPart c_m_readPart) 2 (s_ldA 0 (s_ldI 2 (s_ic 0 (s_call (FW_m_tellsOp c_m_tellsOp) 3 (s_pop (s_goto (p_C 0 10 0 <| p_I 1 fun a1 => p_E fun s => K5 s a1))))))))))))))))))
set_option maxRecDepth 20000 in
theorem e_m_readTerm_b41 (K5 : Sg → Int32 → Option Sg) (c_m_readPart : Sg → Int32 → Option Sg) (c_m_tellsOp : Sg → Int32 → Int32 → Option (Sg × Int32)) (s : Sg) (l1 : Int32) : m_readTerm_b41_G K5 c_m_readPart c_m_tellsOp s l1 = t_m_readTerm_b41 K5 c_m_readPart c_m_tellsOp [some (.inr (.inr (some (10, 0)))), some (.inl l1), none] [] s := rfl
noncomputable def m_readTerm_b5_G (K41 : Sg → Int32 → Option Sg) (c_m_sign : Sg → Int32 → Option (Sg × Int32)) (c_m_takes0 : Sg → Int32 → Option (Sg × Int32)) (s : Sg) (l1 : Int32) : Option Sg :=
  (c_m_sign s 42).bind fun q1 => (
  (c_m_takes0 q1.1 q1.2).bind fun q2 => (
  gif ((q2.2 : Int32) = 0) (
    (c_m_sign q2.1 47).bind fun q3 => (
    (c_m_takes0 q3.1 q3.2).bind fun q4 => (
    gif ((q4.2 : Int32) = 0) (
      (c_m_sign q4.1 37).bind fun q5 => (
      (c_m_takes0 q5.1 q5.2).bind fun q6 => (
      gif ((q6.2 : Int32) = 0) (
        some q6.1)
      (
        K41 q6.1 l1))))
    (
      K41 q4.1 l1))))
  (
    K41 q2.1 l1)))
noncomputable def m_readTerm_b5 (rs : Sg → Int32 → Option Sg) : Nat → Sg → Int32 → Option Sg
  | 0 => fun _ _ => none
  | n + 1 => m_readTerm_b5_G (m_readTerm_b41 rs (m_readTerm_b5 rs n)) m_sign m_takes0
noncomputable def t_m_readTerm_b5 (K41 : Sg → Int32 → Option Sg) (c_m_sign : Sg → Int32 → Option (Sg × Int32)) (c_m_takes0 : Sg → Int32 → Option (Sg × Int32)) : Bk Sg := (s_ldA 0 (s_ic 42 (s_call (FW_m_sign c_m_sign) 1 (s_call (FW_m_takes0 c_m_takes0) 2 (s_eq0
  (s_ldA 0 (s_ic 47 (s_call (FW_m_sign c_m_sign) 1 (s_call (FW_m_takes0 c_m_takes0) 2 (s_eq0
    (s_ldA 0 (s_ic 37 (s_call (FW_m_sign c_m_sign) 1 (s_call (FW_m_takes0 c_m_takes0) 2 (s_eq0
      (s_vret retV)
      (p_C 0 10 0 <| p_I 1 fun a1 => p_E fun s => K41 s a1))))))
    (p_C 0 10 0 <| p_I 1 fun a1 => p_E fun s => K41 s a1))))))
  (p_C 0 10 0 <| p_I 1 fun a1 => p_E fun s => K41 s a1))))))
set_option maxRecDepth 20000 in
theorem e_m_readTerm_b5 (K41 : Sg → Int32 → Option Sg) (c_m_sign : Sg → Int32 → Option (Sg × Int32)) (c_m_takes0 : Sg → Int32 → Option (Sg × Int32)) (s : Sg) (l1 : Int32) : m_readTerm_b5_G K41 c_m_sign c_m_takes0 s l1 = t_m_readTerm_b5 K41 c_m_sign c_m_takes0 [some (.inr (.inr (some (10, 0)))), some (.inl l1), none] [] s := rfl
noncomputable def m_readTerm_G (K5 : Sg → Int32 → Option Sg) (c_m_readPart : Sg → Int32 → Option Sg) (s : Sg) (l1 : Int32) : Option Sg :=
  (c_m_readPart s l1).bind fun s1 => (
  K5 s1 l1)
noncomputable def m_readTerm (rs : Sg → Int32 → Option Sg) : Sg → Int32 → Option Sg := m_readTerm_G (m_readTerm_b5 rs FU) (m_readPart rs)
noncomputable def t_m_readTerm (K5 : Sg → Int32 → Option Sg) (c_m_readPart : Sg → Int32 → Option Sg) : Bk Sg := (s_ldA 0 (s_ldI 1 (s_call (FW_m_readPart c_m_readPart) 2 (p_C 0 10 0 <| p_I 1 fun a1 => p_E fun s => K5 s a1))))
set_option maxRecDepth 20000 in
theorem e_m_readTerm (K5 : Sg → Int32 → Option Sg) (c_m_readPart : Sg → Int32 → Option Sg) (s : Sg) (l1 : Int32) : m_readTerm_G K5 c_m_readPart s l1 = t_m_readTerm K5 c_m_readPart [some (.inr (.inr (some (10, 0)))), some (.inl l1), none] [] s := rfl
noncomputable def m_readSum_b29_G (K5 : Sg → Int32 → Option Sg) (c_m_readTerm : Sg → Int32 → Option Sg) (c_m_tellsOp : Sg → Int32 → Int32 → Option (Sg × Int32)) (s : Sg) (l1 : Int32) : Option Sg :=
  gd (inb ((rI s 10 0 19) - 1) 401) (
  (c_m_readTerm s l1).bind fun s1 => (
  (c_m_tellsOp s1 (rI s 50 0 (ix ((rI s 10 0 19) - 1))) 0).bind fun q2 => (
  K5 q2.1 l1)))
noncomputable def m_readSum_b29 (rs : Sg → Int32 → Option Sg) (K5 : Sg → Int32 → Option Sg) : Sg → Int32 → Option Sg := m_readSum_b29_G K5 (m_readTerm rs) m_tellsOp
noncomputable def t_m_readSum_b29 (K5 : Sg → Int32 → Option Sg) (c_m_readTerm : Sg → Int32 → Option Sg) (c_m_tellsOp : Sg → Int32 → Int32 → Option (Sg × Int32)) : Bk Sg := (s_ldA 0 (s_getRc 10 15 50 0 (s_ldA 0 (s_getI 10 19 (s_ic 1 (s_bin (fun x y => x - y) (s_iald 50 401 (s_stI 2 (s_ldA 0 (s_ldI 1 (s_call (FW_m_readTerm c_m_readTerm) 2 (s_ldA 0 (s_ldI 2 (s_ic 0 (s_call (FW_m_tellsOp c_m_tellsOp) 3 (s_pop (s_goto (p_C 0 10 0 <| p_I 1 fun a1 => p_E fun s => K5 s a1))))))))))))))))))
set_option maxRecDepth 20000 in
theorem e_m_readSum_b29 (K5 : Sg → Int32 → Option Sg) (c_m_readTerm : Sg → Int32 → Option Sg) (c_m_tellsOp : Sg → Int32 → Int32 → Option (Sg × Int32)) (s : Sg) (l1 : Int32) : m_readSum_b29_G K5 c_m_readTerm c_m_tellsOp s l1 = t_m_readSum_b29 K5 c_m_readTerm c_m_tellsOp [some (.inr (.inr (some (10, 0)))), some (.inl l1), none] [] s := rfl
noncomputable def m_readSum_b5_G (K29 : Sg → Int32 → Option Sg) (c_m_sign : Sg → Int32 → Option (Sg × Int32)) (c_m_takes0 : Sg → Int32 → Option (Sg × Int32)) (s : Sg) (l1 : Int32) : Option Sg :=
  (c_m_sign s 43).bind fun q1 => (
  (c_m_takes0 q1.1 q1.2).bind fun q2 => (
  gif ((q2.2 : Int32) = 0) (
    (c_m_sign q2.1 45).bind fun q3 => (
    (c_m_takes0 q3.1 q3.2).bind fun q4 => (
    gif ((q4.2 : Int32) = 0) (
      some q4.1)
    (
      K29 q4.1 l1))))
  (
    K29 q2.1 l1)))
noncomputable def m_readSum_b5 (rs : Sg → Int32 → Option Sg) : Nat → Sg → Int32 → Option Sg
  | 0 => fun _ _ => none
  | n + 1 => m_readSum_b5_G (m_readSum_b29 rs (m_readSum_b5 rs n)) m_sign m_takes0
noncomputable def t_m_readSum_b5 (K29 : Sg → Int32 → Option Sg) (c_m_sign : Sg → Int32 → Option (Sg × Int32)) (c_m_takes0 : Sg → Int32 → Option (Sg × Int32)) : Bk Sg := (s_ldA 0 (s_ic 43 (s_call (FW_m_sign c_m_sign) 1 (s_call (FW_m_takes0 c_m_takes0) 2 (s_eq0
  (s_ldA 0 (s_ic 45 (s_call (FW_m_sign c_m_sign) 1 (s_call (FW_m_takes0 c_m_takes0) 2 (s_eq0
    (s_vret retV)
    (p_C 0 10 0 <| p_I 1 fun a1 => p_E fun s => K29 s a1))))))
  (p_C 0 10 0 <| p_I 1 fun a1 => p_E fun s => K29 s a1))))))
set_option maxRecDepth 20000 in
theorem e_m_readSum_b5 (K29 : Sg → Int32 → Option Sg) (c_m_sign : Sg → Int32 → Option (Sg × Int32)) (c_m_takes0 : Sg → Int32 → Option (Sg × Int32)) (s : Sg) (l1 : Int32) : m_readSum_b5_G K29 c_m_sign c_m_takes0 s l1 = t_m_readSum_b5 K29 c_m_sign c_m_takes0 [some (.inr (.inr (some (10, 0)))), some (.inl l1), none] [] s := rfl
noncomputable def m_readSum_G (K5 : Sg → Int32 → Option Sg) (c_m_readTerm : Sg → Int32 → Option Sg) (s : Sg) (l1 : Int32) : Option Sg :=
  (c_m_readTerm s l1).bind fun s1 => (
  K5 s1 l1)
noncomputable def m_readSum : Nat → Sg → Int32 → Option Sg
  | 0 => fun _ _ => none
  | d + 1 => m_readSum_G (m_readSum_b5 (m_readSum d) FU) (m_readTerm (m_readSum d))
noncomputable def t_m_readSum (K5 : Sg → Int32 → Option Sg) (c_m_readTerm : Sg → Int32 → Option Sg) : Bk Sg := (s_ldA 0 (s_ldI 1 (s_call (FW_m_readTerm c_m_readTerm) 2 (p_C 0 10 0 <| p_I 1 fun a1 => p_E fun s => K5 s a1))))
set_option maxRecDepth 20000 in
theorem e_m_readSum (K5 : Sg → Int32 → Option Sg) (c_m_readTerm : Sg → Int32 → Option Sg) (s : Sg) (l1 : Int32) : m_readSum_G K5 c_m_readTerm s l1 = t_m_readSum K5 c_m_readTerm [some (.inr (.inr (some (10, 0)))), some (.inl l1), none] [] s := rfl
noncomputable def m_readPlain_b147_G (c_m_readSum : Sg → Int32 → Option Sg) (c_m_tellsOp : Sg → Int32 → Int32 → Option (Sg × Int32)) (s : Sg) (l1 : Int32) (l2 : Int32) (l4 : Int32) : Option Sg :=
  (c_m_readSum s l1).bind fun s1 => (
  (c_m_tellsOp s1 l4 0).bind fun q2 => (
  gif ((l2 : Int32) = 0) (
    some q2.1)
  (
    (c_m_tellsOp q2.1 7 0).bind fun q3 => (
    some q3.1))))
noncomputable def m_readPlain_b147 (rt : Sg → Int32 → Option Sg) : Sg → Int32 → Int32 → Int32 → Option Sg := m_readPlain_b147_G (m_readSum DR) m_tellsOp
noncomputable def t_m_readPlain_b147 (c_m_readSum : Sg → Int32 → Option Sg) (c_m_tellsOp : Sg → Int32 → Int32 → Option (Sg × Int32)) : Bk Sg := (s_ldA 0 (s_ldI 1 (s_call (FW_m_readSum c_m_readSum) 2 (s_ldA 0 (s_ldI 4 (s_ic 0 (s_call (FW_m_tellsOp c_m_tellsOp) 3 (s_pop (s_ldI 2 (s_eq0
  (s_vret retV)
  (s_ldA 0 (s_ic 7 (s_ic 0 (s_call (FW_m_tellsOp c_m_tellsOp) 3 (s_pop (s_vret retV))))))))))))))))
set_option maxRecDepth 20000 in
theorem e_m_readPlain_b147 (c_m_readSum : Sg → Int32 → Option Sg) (c_m_tellsOp : Sg → Int32 → Int32 → Option (Sg × Int32)) (s : Sg) (l1 : Int32) (l2 : Int32) (l4 : Int32) : m_readPlain_b147_G c_m_readSum c_m_tellsOp s l1 l2 l4 = t_m_readPlain_b147 c_m_readSum c_m_tellsOp [some (.inr (.inr (some (10, 0)))), some (.inl l1), some (.inl l2), none, some (.inl l4)] [] s := rfl
noncomputable def m_readPlain_b61_G (c_m_fine : Sg → Option (Sg × Int32)) (c_m_readTest : Sg → Int32 → Option Sg) (c_m_sign : Sg → Int32 → Option (Sg × Int32)) (c_m_must : Sg → Int32 → Option Sg) (c_m_tellsOp : Sg → Int32 → Int32 → Option (Sg × Int32)) (s : Sg) (l1 : Int32) (l2 : Int32) : Option Sg :=
  (c_m_fine s).bind fun q1 => (
  gif ((q1.2 : Int32) = 0) (
    some q1.1)
  (
    let s2 := wI q1.1 10 0 19 ((rI q1.1 10 0 19) + 1)
    (c_m_readTest s2 (l1 + 1)).bind fun s3 => (
    (c_m_sign s3 41).bind fun q4 => (
    (c_m_must q4.1 q4.2).bind fun s5 => (
    gif ((l2 : Int32) = 0) (
      some s5)
    (
      (c_m_tellsOp s5 7 0).bind fun q6 => (
      some q6.1)))))))
noncomputable def m_readPlain_b61 (rt : Sg → Int32 → Option Sg) : Sg → Int32 → Int32 → Option Sg := m_readPlain_b61_G m_fine rt m_sign m_must m_tellsOp
noncomputable def t_m_readPlain_b61 (c_m_fine : Sg → Option (Sg × Int32)) (c_m_readTest : Sg → Int32 → Option Sg) (c_m_sign : Sg → Int32 → Option (Sg × Int32)) (c_m_must : Sg → Int32 → Option Sg) (c_m_tellsOp : Sg → Int32 → Int32 → Option (Sg × Int32)) : Bk Sg := (s_ldA 0 (s_call (FW_m_fine c_m_fine) 1 (s_eq0
  (s_vret retV)
  (s_ldA 0 (s_dup (s_getI 10 19 (s_ic 1 (s_bin (fun x y => x + y) (s_putI 10 19 (s_ldA 0 (s_ldI 1 (s_ic 1 (s_bin (fun x y => x + y) (s_call (FW_m_readTest c_m_readTest) 2 (s_ldA 0 (s_ic 41 (s_call (FW_m_sign c_m_sign) 1 (s_call (FW_m_must c_m_must) 2 (s_goto (s_ldI 2 (s_eq0
    (s_vret retV)
    (s_ldA 0 (s_ic 7 (s_ic 0 (s_call (FW_m_tellsOp c_m_tellsOp) 3 (s_pop (s_vret retV)))))))))))))))))))))))))))
set_option maxRecDepth 20000 in
theorem e_m_readPlain_b61 (c_m_fine : Sg → Option (Sg × Int32)) (c_m_readTest : Sg → Int32 → Option Sg) (c_m_sign : Sg → Int32 → Option (Sg × Int32)) (c_m_must : Sg → Int32 → Option Sg) (c_m_tellsOp : Sg → Int32 → Int32 → Option (Sg × Int32)) (s : Sg) (l1 : Int32) (l2 : Int32) : m_readPlain_b61_G c_m_fine c_m_readTest c_m_sign c_m_must c_m_tellsOp s l1 l2 = t_m_readPlain_b61 c_m_fine c_m_readTest c_m_sign c_m_must c_m_tellsOp [some (.inr (.inr (some (10, 0)))), some (.inl l1), some (.inl l2), none, none] [] s := rfl
noncomputable def m_readPlain_b2_G (K2 : Sg → Int32 → Int32 → Option Sg) (K61 : Sg → Int32 → Int32 → Option Sg) (K147 : Sg → Int32 → Int32 → Int32 → Option Sg) (c_m_takes0 : Sg → Int32 → Option (Sg × Int32)) (c_m_fine : Sg → Option (Sg × Int32)) (c_m_sign : Sg → Int32 → Option (Sg × Int32)) (c_m_faults : Sg → Option Sg) (c_m_readSum : Sg → Int32 → Option Sg) (c_m_must : Sg → Int32 → Option Sg) (s : Sg) (l1 : Int32) (l2 : Int32) : Option Sg :=
  (c_m_takes0 s 7).bind fun q1 => (
  gif ((q1.2 : Int32) = 0) (
    (c_m_fine q1.1).bind fun q2 => (
    gif ((q2.2 : Int32) = 0) (
      some q2.1)
    (
      gd (inb (rI q2.1 10 0 19) 401) (
      (c_m_sign q2.1 40).bind fun q3 => (
      gif (((rI q2.1 50 0 (ix (rI q2.1 10 0 19))) : Int32) = q3.2) (
        gif ((l1 : Int32) = 8) (
          (c_m_faults q3.1).bind fun s4 => (
          K61 s4 l1 l2))
        (
          K61 q3.1 l1 l2))
      (
        (c_m_readSum q3.1 l1).bind fun s5 => (
        gd (inb (rI s5 10 0 19) 401) (
        (c_m_sign s5 60).bind fun q6 => (
        (c_m_takes0 q6.1 q6.2).bind fun q7 => (
        gif ((q7.2 : Int32) = 0) (
          (c_m_sign q7.1 62).bind fun q8 => (
          (c_m_takes0 q8.1 q8.2).bind fun q9 => (
          gif ((q9.2 : Int32) = 0) (
            (c_m_sign q9.1 61).bind fun q10 => (
            (c_m_must q10.1 q10.2).bind fun s11 => (
            K147 s11 l1 l2 (rI s5 50 0 (ix (rI s5 10 0 19))))))
          (
            K147 q9.1 l1 l2 (rI s5 50 0 (ix (rI s5 10 0 19)))))))
        (
          K147 q7.1 l1 l2 (rI s5 50 0 (ix (rI s5 10 0 19))))))))))))))
  (
    gif ((l2 : Int32) = 0) (
      K2 q1.1 l1 1)
    (
      K2 q1.1 l1 0)))
noncomputable def m_readPlain_b2 (rt : Sg → Int32 → Option Sg) : Nat → Sg → Int32 → Int32 → Option Sg
  | 0 => fun _ _ _ => none
  | n + 1 => m_readPlain_b2_G (m_readPlain_b2 rt n) (m_readPlain_b61 rt) (m_readPlain_b147 rt) m_takes0 m_fine m_sign m_faults (m_readSum DR) m_must
noncomputable def t_m_readPlain_b2 (K2 : Sg → Int32 → Int32 → Option Sg) (K61 : Sg → Int32 → Int32 → Option Sg) (K147 : Sg → Int32 → Int32 → Int32 → Option Sg) (c_m_takes0 : Sg → Int32 → Option (Sg × Int32)) (c_m_fine : Sg → Option (Sg × Int32)) (c_m_sign : Sg → Int32 → Option (Sg × Int32)) (c_m_faults : Sg → Option Sg) (c_m_readSum : Sg → Int32 → Option Sg) (c_m_must : Sg → Int32 → Option Sg) : Bk Sg := (s_ldA 0 (s_ic 7 (s_call (FW_m_takes0 c_m_takes0) 2 (s_eq0
  (s_ldA 0 (s_call (FW_m_fine c_m_fine) 1 (s_eq0
    (s_vret retV)
    (s_ldA 0 (s_getRc 10 15 50 0 (s_ldA 0 (s_getI 10 19 (s_iald 50 401 (s_stI 3 (s_ldI 3 (s_ic 40 (s_call (FW_m_sign c_m_sign) 1 (s_ceq
      (s_ldI 1 (s_ic 8 (s_ceq
        (s_ldA 0 (s_call (FW_m_faults c_m_faults) 1 (p_C 0 10 0 <| p_I 1 fun a1 => p_I 2 fun a2 => p_E fun s => K61 s a1 a2)))
        (p_C 0 10 0 <| p_I 1 fun a1 => p_I 2 fun a2 => p_E fun s => K61 s a1 a2))))
      (s_ldA 0 (s_ldI 1 (s_call (FW_m_readSum c_m_readSum) 2 (s_ldA 0 (s_getRc 10 15 50 0 (s_ldA 0 (s_getI 10 19 (s_iald 50 401 (s_stI 4 (s_ldA 0 (s_ic 60 (s_call (FW_m_sign c_m_sign) 1 (s_call (FW_m_takes0 c_m_takes0) 2 (s_eq0
        (s_ldA 0 (s_ic 62 (s_call (FW_m_sign c_m_sign) 1 (s_call (FW_m_takes0 c_m_takes0) 2 (s_eq0
          (s_ldA 0 (s_ic 61 (s_call (FW_m_sign c_m_sign) 1 (s_call (FW_m_must c_m_must) 2 (p_C 0 10 0 <| p_I 1 fun a1 => p_I 2 fun a2 => p_I 4 fun a4 => p_E fun s => K147 s a1 a2 a4)))))
          (p_C 0 10 0 <| p_I 1 fun a1 => p_I 2 fun a2 => p_I 4 fun a4 => p_E fun s => K147 s a1 a2 a4))))))
        (p_C 0 10 0 <| p_I 1 fun a1 => p_I 2 fun a2 => p_I 4 fun a4 => p_E fun s => K147 s a1 a2 a4))))))))))))))))))))))))))))
  (s_ldI 2 (s_eq0
    (s_ic 1 (s_goto (s_stI 2 (s_goto (p_C 0 10 0 <| p_I 1 fun a1 => p_I 2 fun a2 => p_E fun s => K2 s a1 a2)))))
    (s_ic 0 (s_stI 2 (s_goto (p_C 0 10 0 <| p_I 1 fun a1 => p_I 2 fun a2 => p_E fun s => K2 s a1 a2))))))))))
set_option maxRecDepth 20000 in
theorem e_m_readPlain_b2 (K2 : Sg → Int32 → Int32 → Option Sg) (K61 : Sg → Int32 → Int32 → Option Sg) (K147 : Sg → Int32 → Int32 → Int32 → Option Sg) (c_m_takes0 : Sg → Int32 → Option (Sg × Int32)) (c_m_fine : Sg → Option (Sg × Int32)) (c_m_sign : Sg → Int32 → Option (Sg × Int32)) (c_m_faults : Sg → Option Sg) (c_m_readSum : Sg → Int32 → Option Sg) (c_m_must : Sg → Int32 → Option Sg) (s : Sg) (l1 : Int32) (l2 : Int32) : m_readPlain_b2_G K2 K61 K147 c_m_takes0 c_m_fine c_m_sign c_m_faults c_m_readSum c_m_must s l1 l2 = t_m_readPlain_b2 K2 K61 K147 c_m_takes0 c_m_fine c_m_sign c_m_faults c_m_readSum c_m_must [some (.inr (.inr (some (10, 0)))), some (.inl l1), some (.inl l2), none, none] [] s := rfl
noncomputable def m_readPlain_G (K2 : Sg → Int32 → Int32 → Option Sg) (s : Sg) (l1 : Int32) : Option Sg :=
  K2 s l1 0
noncomputable def m_readPlain (rt : Sg → Int32 → Option Sg) : Sg → Int32 → Option Sg := m_readPlain_G (m_readPlain_b2 rt FU)
noncomputable def t_m_readPlain (K2 : Sg → Int32 → Int32 → Option Sg) : Bk Sg := (s_ic 0 (s_stI 2 (p_C 0 10 0 <| p_I 1 fun a1 => p_I 2 fun a2 => p_E fun s => K2 s a1 a2)))
set_option maxRecDepth 20000 in
theorem e_m_readPlain (K2 : Sg → Int32 → Int32 → Option Sg) (s : Sg) (l1 : Int32) : m_readPlain_G K2 s l1 = t_m_readPlain K2 [some (.inr (.inr (some (10, 0)))), some (.inl l1), none, none, none] [] s := rfl
noncomputable def m_readBoth_b5_G (K5 : Sg → Int32 → Option Sg) (c_m_takes0 : Sg → Int32 → Option (Sg × Int32)) (c_m_tellsOp : Sg → Int32 → Int32 → Option (Sg × Int32)) (c_m_readPlain : Sg → Int32 → Option Sg) (s : Sg) (l1 : Int32) : Option Sg :=
  (c_m_takes0 s 6).bind fun q1 => (
  gif ((q1.2 : Int32) = 0) (
    some q1.1)
  (
    (c_m_tellsOp q1.1 6 0).bind fun q2 => (
    (c_m_readPlain q2.1 l1).bind fun s3 => (
    gd (inb q2.2 800) (
    let s4 := wI s3 54 0 (ix q2.2) (rI s3 10 0 24)
    K5 s4 l1)))))
noncomputable def m_readBoth_b5 (rt : Sg → Int32 → Option Sg) : Nat → Sg → Int32 → Option Sg
  | 0 => fun _ _ => none
  | n + 1 => m_readBoth_b5_G (m_readBoth_b5 rt n) m_takes0 m_tellsOp (m_readPlain rt)
noncomputable def t_m_readBoth_b5 (K5 : Sg → Int32 → Option Sg) (c_m_takes0 : Sg → Int32 → Option (Sg × Int32)) (c_m_tellsOp : Sg → Int32 → Int32 → Option (Sg × Int32)) (c_m_readPlain : Sg → Int32 → Option Sg) : Bk Sg := (s_ldA 0 (s_ic 6 (s_call (FW_m_takes0 c_m_takes0) 2 (s_eq0
  (s_vret retV)
  (s_ldA 0 (s_ic 6 (s_ic 0 (s_call (FW_m_tellsOp c_m_tellsOp) 3 (s_stI 2 (s_ldA 0 (s_ldI 1 (s_call (FW_m_readPlain c_m_readPlain) 2 (s_ldA 0 (s_getRc 10 23 54 0 (s_ldI 2 (s_ldA 0 (s_getI 10 24 (s_iast 54 800 (s_goto (p_C 0 10 0 <| p_I 1 fun a1 => p_E fun s => K5 s a1))))))))))))))))))))
set_option maxRecDepth 20000 in
theorem e_m_readBoth_b5 (K5 : Sg → Int32 → Option Sg) (c_m_takes0 : Sg → Int32 → Option (Sg × Int32)) (c_m_tellsOp : Sg → Int32 → Int32 → Option (Sg × Int32)) (c_m_readPlain : Sg → Int32 → Option Sg) (s : Sg) (l1 : Int32) : m_readBoth_b5_G K5 c_m_takes0 c_m_tellsOp c_m_readPlain s l1 = t_m_readBoth_b5 K5 c_m_takes0 c_m_tellsOp c_m_readPlain [some (.inr (.inr (some (10, 0)))), some (.inl l1), none] [] s := rfl
noncomputable def m_readBoth_G (K5 : Sg → Int32 → Option Sg) (c_m_readPlain : Sg → Int32 → Option Sg) (s : Sg) (l1 : Int32) : Option Sg :=
  (c_m_readPlain s l1).bind fun s1 => (
  K5 s1 l1)
noncomputable def m_readBoth (rt : Sg → Int32 → Option Sg) : Sg → Int32 → Option Sg := m_readBoth_G (m_readBoth_b5 rt FU) (m_readPlain rt)
noncomputable def t_m_readBoth (K5 : Sg → Int32 → Option Sg) (c_m_readPlain : Sg → Int32 → Option Sg) : Bk Sg := (s_ldA 0 (s_ldI 1 (s_call (FW_m_readPlain c_m_readPlain) 2 (p_C 0 10 0 <| p_I 1 fun a1 => p_E fun s => K5 s a1))))
set_option maxRecDepth 20000 in
theorem e_m_readBoth (K5 : Sg → Int32 → Option Sg) (c_m_readPlain : Sg → Int32 → Option Sg) (s : Sg) (l1 : Int32) : m_readBoth_G K5 c_m_readPlain s l1 = t_m_readBoth K5 c_m_readPlain [some (.inr (.inr (some (10, 0)))), some (.inl l1), none] [] s := rfl
noncomputable def m_readTest_b5_G (K5 : Sg → Int32 → Option Sg) (c_m_takes0 : Sg → Int32 → Option (Sg × Int32)) (c_m_tellsOp : Sg → Int32 → Int32 → Option (Sg × Int32)) (c_m_readBoth : Sg → Int32 → Option Sg) (s : Sg) (l1 : Int32) : Option Sg :=
  (c_m_takes0 s 5).bind fun q1 => (
  gif ((q1.2 : Int32) = 0) (
    some q1.1)
  (
    (c_m_tellsOp q1.1 5 0).bind fun q2 => (
    (c_m_readBoth q2.1 l1).bind fun s3 => (
    gd (inb q2.2 800) (
    let s4 := wI s3 54 0 (ix q2.2) (rI s3 10 0 24)
    K5 s4 l1)))))
noncomputable def m_readTest_b5 (rt : Sg → Int32 → Option Sg) : Nat → Sg → Int32 → Option Sg
  | 0 => fun _ _ => none
  | n + 1 => m_readTest_b5_G (m_readTest_b5 rt n) m_takes0 m_tellsOp (m_readBoth rt)
noncomputable def t_m_readTest_b5 (K5 : Sg → Int32 → Option Sg) (c_m_takes0 : Sg → Int32 → Option (Sg × Int32)) (c_m_tellsOp : Sg → Int32 → Int32 → Option (Sg × Int32)) (c_m_readBoth : Sg → Int32 → Option Sg) : Bk Sg := (s_ldA 0 (s_ic 5 (s_call (FW_m_takes0 c_m_takes0) 2 (s_eq0
  (s_vret retV)
  (s_ldA 0 (s_ic 5 (s_ic 0 (s_call (FW_m_tellsOp c_m_tellsOp) 3 (s_stI 2 (s_ldA 0 (s_ldI 1 (s_call (FW_m_readBoth c_m_readBoth) 2 (s_ldA 0 (s_getRc 10 23 54 0 (s_ldI 2 (s_ldA 0 (s_getI 10 24 (s_iast 54 800 (s_goto (p_C 0 10 0 <| p_I 1 fun a1 => p_E fun s => K5 s a1))))))))))))))))))))
set_option maxRecDepth 20000 in
theorem e_m_readTest_b5 (K5 : Sg → Int32 → Option Sg) (c_m_takes0 : Sg → Int32 → Option (Sg × Int32)) (c_m_tellsOp : Sg → Int32 → Int32 → Option (Sg × Int32)) (c_m_readBoth : Sg → Int32 → Option Sg) (s : Sg) (l1 : Int32) : m_readTest_b5_G K5 c_m_takes0 c_m_tellsOp c_m_readBoth s l1 = t_m_readTest_b5 K5 c_m_takes0 c_m_tellsOp c_m_readBoth [some (.inr (.inr (some (10, 0)))), some (.inl l1), none] [] s := rfl
noncomputable def m_readTest_G (K5 : Sg → Int32 → Option Sg) (c_m_readBoth : Sg → Int32 → Option Sg) (s : Sg) (l1 : Int32) : Option Sg :=
  (c_m_readBoth s l1).bind fun s1 => (
  K5 s1 l1)
noncomputable def m_readTest : Nat → Sg → Int32 → Option Sg
  | 0 => fun _ _ => none
  | d + 1 => m_readTest_G (m_readTest_b5 (m_readTest d) FU) (m_readBoth (m_readTest d))
noncomputable def t_m_readTest (K5 : Sg → Int32 → Option Sg) (c_m_readBoth : Sg → Int32 → Option Sg) : Bk Sg := (s_ldA 0 (s_ldI 1 (s_call (FW_m_readBoth c_m_readBoth) 2 (p_C 0 10 0 <| p_I 1 fun a1 => p_E fun s => K5 s a1))))
set_option maxRecDepth 20000 in
theorem e_m_readTest (K5 : Sg → Int32 → Option Sg) (c_m_readBoth : Sg → Int32 → Option Sg) (s : Sg) (l1 : Int32) : m_readTest_G K5 c_m_readBoth s l1 = t_m_readTest K5 c_m_readBoth [some (.inr (.inr (some (10, 0)))), some (.inl l1), none] [] s := rfl
noncomputable def m_readClause_b44_G (c_m_takes0 : Sg → Int32 → Option (Sg × Int32)) (c_m_tellsOp : Sg → Int32 → Int32 → Option (Sg × Int32)) (c_m_readTest : Sg → Int32 → Option Sg) (s : Sg) (l1 : Int32) : Option Sg :=
  (c_m_takes0 s 4).bind fun q1 => (
  gif ((q1.2 : Int32) = 0) (
    gd (inb l1 800) (
    let s2 := wI q1.1 54 0 (ix l1) (rI q1.1 10 0 24)
    some s2))
  (
    (c_m_tellsOp q1.1 4 0).bind fun q3 => (
    (c_m_readTest q3.1 0).bind fun s4 => (
    gd (inb l1 800) (
    let s5 := wI s4 54 0 (ix l1) (rI s4 10 0 24)
    some s5)))))
noncomputable def m_readClause_b44 : Sg → Int32 → Option Sg := m_readClause_b44_G m_takes0 m_tellsOp (m_readTest DR)
noncomputable def t_m_readClause_b44 (c_m_takes0 : Sg → Int32 → Option (Sg × Int32)) (c_m_tellsOp : Sg → Int32 → Int32 → Option (Sg × Int32)) (c_m_readTest : Sg → Int32 → Option Sg) : Bk Sg := (s_ldA 0 (s_ic 4 (s_call (FW_m_takes0 c_m_takes0) 2 (s_eq0
  (s_ldA 0 (s_getRc 10 23 54 0 (s_ldI 1 (s_ldA 0 (s_getI 10 24 (s_iast 54 800 (s_vret retV)))))))
  (s_ldA 0 (s_ic 4 (s_ic 0 (s_call (FW_m_tellsOp c_m_tellsOp) 3 (s_pop (s_ldA 0 (s_ic 0 (s_call (FW_m_readTest c_m_readTest) 2 (s_ldA 0 (s_getRc 10 23 54 0 (s_ldI 1 (s_ldA 0 (s_getI 10 24 (s_iast 54 800 (s_vret retV)))))))))))))))))))
set_option maxRecDepth 20000 in
theorem e_m_readClause_b44 (c_m_takes0 : Sg → Int32 → Option (Sg × Int32)) (c_m_tellsOp : Sg → Int32 → Int32 → Option (Sg × Int32)) (c_m_readTest : Sg → Int32 → Option Sg) (s : Sg) (l1 : Int32) : m_readClause_b44_G c_m_takes0 c_m_tellsOp c_m_readTest s l1 = t_m_readClause_b44 c_m_takes0 c_m_tellsOp c_m_readTest [some (.inr (.inr (some (10, 0)))), some (.inl l1)] [] s := rfl
noncomputable def m_readClause_G (K44 : Sg → Int32 → Option Sg) (c_m_tellsOp : Sg → Int32 → Int32 → Option (Sg × Int32)) (c_m_takes0 : Sg → Int32 → Option (Sg × Int32)) (c_m_readSum : Sg → Int32 → Option Sg) (c_m_must : Sg → Int32 → Option Sg) (s : Sg) : Option Sg :=
  gd (inb (rI s 10 0 19) 401) (
  (c_m_tellsOp s (rI s 50 0 (ix (rI s 10 0 19))) 0).bind fun q1 => (
  (c_m_takes0 q1.1 1).bind fun q2 => (
  gif ((q2.2 : Int32) = 0) (
    (c_m_takes0 q2.1 2).bind fun q3 => (
    gif ((q3.2 : Int32) = 0) (
      (c_m_must q3.1 3).bind fun s4 => (
      K44 s4 q1.2))
    (
      (c_m_readSum q3.1 0).bind fun s5 => (
      K44 s5 q1.2))))
  (
    (c_m_readSum q2.1 0).bind fun s6 => (
    K44 s6 q1.2)))))
noncomputable def m_readClause : Sg → Option Sg := m_readClause_G (m_readClause_b44) m_tellsOp m_takes0 (m_readSum DR) m_must
noncomputable def t_m_readClause (K44 : Sg → Int32 → Option Sg) (c_m_tellsOp : Sg → Int32 → Int32 → Option (Sg × Int32)) (c_m_takes0 : Sg → Int32 → Option (Sg × Int32)) (c_m_readSum : Sg → Int32 → Option Sg) (c_m_must : Sg → Int32 → Option Sg) : Bk Sg := (s_ldA 0 (s_ldA 0 (s_getRc 10 15 50 0 (s_ldA 0 (s_getI 10 19 (s_iald 50 401 (s_ic 0 (s_call (FW_m_tellsOp c_m_tellsOp) 3 (s_stI 1 (s_ldA 0 (s_ic 1 (s_call (FW_m_takes0 c_m_takes0) 2 (s_eq0
  (s_ldA 0 (s_ic 2 (s_call (FW_m_takes0 c_m_takes0) 2 (s_eq0
    (s_ldA 0 (s_ic 3 (s_call (FW_m_must c_m_must) 2 (p_C 0 10 0 <| p_I 1 fun a1 => p_E fun s => K44 s a1))))
    (s_ldA 0 (s_ic 0 (s_call (FW_m_readSum c_m_readSum) 2 (s_goto (p_C 0 10 0 <| p_I 1 fun a1 => p_E fun s => K44 s a1)))))))))
  (s_ldA 0 (s_ic 0 (s_call (FW_m_readSum c_m_readSum) 2 (s_goto (p_C 0 10 0 <| p_I 1 fun a1 => p_E fun s => K44 s a1))))))))))))))))))
set_option maxRecDepth 20000 in
theorem e_m_readClause (K44 : Sg → Int32 → Option Sg) (c_m_tellsOp : Sg → Int32 → Int32 → Option (Sg × Int32)) (c_m_takes0 : Sg → Int32 → Option (Sg × Int32)) (c_m_readSum : Sg → Int32 → Option Sg) (c_m_must : Sg → Int32 → Option Sg) (s : Sg) : m_readClause_G K44 c_m_tellsOp c_m_takes0 c_m_readSum c_m_must s = t_m_readClause K44 c_m_tellsOp c_m_takes0 c_m_readSum c_m_must [some (.inr (.inr (some (10, 0)))), none] [] s := rfl
