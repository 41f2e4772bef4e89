noncomputable def m_lies_G (s : Sg) (l0 : Int32) (l1 : Int32) (l2 : Int32) : Option (Sg × Int32) :=
  gif ((l0 : Int32) < l1) (
    gd (isB 0) (some (s, 0)))
  (
    gif ((l2 : Int32) < l0) (
      gd (isB 0) (some (s, 0)))
    (
      gd (isB 1) (some (s, 1))))
noncomputable def m_lies : Sg → Int32 → Int32 → Int32 → Option (Sg × Int32) := m_lies_G
noncomputable def t_m_lies : Bk (Sg × Int32) := (s_ldI 0 (s_ldI 1 (s_clt
  (s_ic 0 (s_zret retI))
  (s_ldI 0 (s_ldI 2 (s_cgt
    (s_ic 0 (s_zret retI))
    (s_ic 1 (s_goto (s_zret retI)))))))))
set_option maxRecDepth 20000 in
theorem e_m_lies (s : Sg) (l0 : Int32) (l1 : Int32) (l2 : Int32) : m_lies_G s l0 l1 l2 = t_m_lies [some (.inl l0), some (.inl l1), some (.inl l2)] [] s := rfl
noncomputable def m_lesser_G (s : Sg) (l0 : Int32) (l1 : Int32) : Option (Sg × Int32) :=
  gif ((l0 : Int32) < l1) (
    some (s, l0))
  (
    some (s, l1))
noncomputable def m_lesser : Sg → Int32 → Int32 → Option (Sg × Int32) := m_lesser_G
noncomputable def t_m_lesser : Bk (Sg × Int32) := (s_ldI 0 (s_ldI 1 (s_clt
  (s_ldI 0 (s_goto (s_iret retI)))
  (s_ldI 1 (s_iret retI)))))
set_option maxRecDepth 20000 in
theorem e_m_lesser (s : Sg) (l0 : Int32) (l1 : Int32) : m_lesser_G s l0 l1 = t_m_lesser [some (.inl l0), some (.inl l1)] [] s := rfl
noncomputable def m_greater_G (s : Sg) (l0 : Int32) (l1 : Int32) : Option (Sg × Int32) :=
  gif ((l1 : Int32) < l0) (
    some (s, l0))
  (
    some (s, l1))
noncomputable def m_greater : Sg → Int32 → Int32 → Option (Sg × Int32) := m_greater_G
noncomputable def t_m_greater : Bk (Sg × Int32) := (s_ldI 0 (s_ldI 1 (s_cgt
  (s_ldI 0 (s_goto (s_iret retI)))
  (s_ldI 1 (s_iret retI)))))
set_option maxRecDepth 20000 in
theorem e_m_greater (s : Sg) (l0 : Int32) (l1 : Int32) : m_greater_G s l0 l1 = t_m_greater [some (.inl l0), some (.inl l1)] [] s := rfl
noncomputable def m_refuses_G (s : Sg) (l1 : Int32) : Option (Sg × Int32) :=
  let s1 := wI s 10 0 0 l1
  gd (inb (-l1) 7) (
  gd (inb (-l1) 7) (
  let s2 := wI s1 42 0 (ix (-l1)) ((rI s1 42 0 (ix (-l1))) + 1)
  some (s2, l1)))
noncomputable def m_refuses : Sg → Int32 → Option (Sg × Int32) := m_refuses_G
noncomputable def t_m_refuses : Bk (Sg × Int32) := (s_ldA 0 (s_ldI 1 (s_putI 10 0 (s_ldA 0 (s_getRc 10 1 42 0 (s_ldI 1 (s_neg (s_dup2 (s_iald 42 7 (s_ic 1 (s_bin (fun x y => x + y) (s_iast 42 7 (s_ldI 1 (s_iret retI))))))))))))))
set_option maxRecDepth 20000 in
theorem e_m_refuses (s : Sg) (l1 : Int32) : m_refuses_G s l1 = t_m_refuses [some (.inr (.inr (some (10, 0)))), some (.inl l1)] [] s := rfl
noncomputable def m_good_G (s : Sg) (l1 : Int32) : Option (Sg × Int32) :=
  let s1 := wI s 10 0 0 0
  some (s1, l1)
noncomputable def m_good : Sg → Int32 → Option (Sg × Int32) := m_good_G
noncomputable def t_m_good : Bk (Sg × Int32) := (s_ldA 0 (s_ic 0 (s_putI 10 0 (s_ldI 1 (s_iret retI)))))
set_option maxRecDepth 20000 in
theorem e_m_good (s : Sg) (l1 : Int32) : m_good_G s l1 = t_m_good [some (.inr (.inr (some (10, 0)))), some (.inl l1)] [] s := rfl
noncomputable def m_settled_G (c_m_good : Sg → Int32 → Option (Sg × Int32)) (s : Sg) (l1 : Int32) : Option (Sg × Int32) :=
  let s1 := wI s 10 0 46 0
  (c_m_good s1 l1).bind fun q2 => (
  some (q2.1, q2.2))
noncomputable def m_settled : Sg → Int32 → Option (Sg × Int32) := m_settled_G m_good
noncomputable def t_m_settled (c_m_good : Sg → Int32 → Option (Sg × Int32)) : Bk (Sg × Int32) := (s_ldA 0 (s_ic 0 (s_putI 10 46 (s_ldA 0 (s_ldI 1 (s_call (FW_m_good c_m_good) 2 (s_iret retI)))))))
set_option maxRecDepth 20000 in
theorem e_m_settled (c_m_good : Sg → Int32 → Option (Sg × Int32)) (s : Sg) (l1 : Int32) : m_settled_G c_m_good s l1 = t_m_settled c_m_good [some (.inr (.inr (some (10, 0)))), some (.inl l1)] [] s := rfl
noncomputable def m_isIn_G (s : Sg) (l0 : Int32) (l1 : Int32) : Option (Sg × Int32) :=
  gif ((((l0 >>> (l1 &&& 31)) &&& 1) : Int32) = 1) (
    gd (isB 1) (some (s, 1)))
  (
    gd (isB 0) (some (s, 0)))
noncomputable def m_isIn : Sg → Int32 → Int32 → Option (Sg × Int32) := m_isIn_G
noncomputable def t_m_isIn : Bk (Sg × Int32) := (s_ldI 0 (s_ldI 1 (s_bin (fun x y => x >>> (y &&& 31)) (s_ic 1 (s_bin (fun x y => x &&& y) (s_ic 1 (s_ceq
  (s_ic 1 (s_goto (s_zret retI)))
  (s_ic 0 (s_zret retI)))))))))
set_option maxRecDepth 20000 in
theorem e_m_isIn (s : Sg) (l0 : Int32) (l1 : Int32) : m_isIn_G s l0 l1 = t_m_isIn [some (.inl l0), some (.inl l1)] [] s := rfl
noncomputable def m_laysAside_b2_G (K2 : Sg → Int32 → Int32 → Option Sg) (s : Sg) (l1 : Int32) (l2 : Int32) : Option Sg :=
  gif ((l2 : Int32) < 15) (
    gd (inb l2 5665) (
    gd (inb ((15 * l1) + l2) 30) (
    let s1 := wI s 46 0 (ix ((15 * l1) + l2)) (rI s 43 0 (ix l2))
    K2 s1 l1 (l2 + 1))))
  (
    some s)
noncomputable def m_laysAside_b2 : Nat → Sg → Int32 → Int32 → Option Sg
  | 0 => fun _ _ _ => none
  | n + 1 => m_laysAside_b2_G (m_laysAside_b2 n)
noncomputable def t_m_laysAside_b2 (K2 : Sg → Int32 → Int32 → Option Sg) : Bk Sg := (s_ldI 2 (s_ic 15 (s_clt
  (s_ldA 0 (s_getRc 10 5 46 0 (s_ic 15 (s_ldI 1 (s_bin (fun x y => x * y) (s_ldI 2 (s_bin (fun x y => x + y) (s_ldA 0 (s_getRc 10 2 43 0 (s_ldI 2 (s_iald 43 5665 (s_iast 46 30 (s_inc 2 1 (s_goto (p_C 0 10 0 <| p_I 1 fun a1 => p_I 2 fun a2 => p_E fun s => K2 s a1 a2)))))))))))))))
  (s_vret retV))))
set_option maxRecDepth 20000 in
theorem e_m_laysAside_b2 (K2 : Sg → Int32 → Int32 → Option Sg) (s : Sg) (l1 : Int32) (l2 : Int32) : m_laysAside_b2_G K2 s l1 l2 = t_m_laysAside_b2 K2 [some (.inr (.inr (some (10, 0)))), some (.inl l1), some (.inl l2)] [] s := rfl
noncomputable def m_laysAside_G (K2 : Sg → Int32 → Int32 → Option Sg) (s : Sg) (l1 : Int32) : Option Sg :=
  K2 s l1 0
noncomputable def m_laysAside : Sg → Int32 → Option Sg := m_laysAside_G (m_laysAside_b2 FU)
noncomputable def t_m_laysAside (K2 : Sg → Int32 → Int32 → Option Sg) : Bk Sg := (s_ic 0 (s_stI 2 (p_C 0 10 0 <| p_I 1 fun a1 => p_I 2 fun a2 => p_E fun s => K2 s a1 a2)))
set_option maxRecDepth 20000 in
theorem e_m_laysAside (K2 : Sg → Int32 → Int32 → Option Sg) (s : Sg) (l1 : Int32) : m_laysAside_G K2 s l1 = t_m_laysAside K2 [some (.inr (.inr (some (10, 0)))), some (.inl l1), none] [] s := rfl
noncomputable def m_takesBack_b2_G (K2 : Sg → Int32 → Int32 → Option Sg) (s : Sg) (l1 : Int32) (l2 : Int32) : Option Sg :=
  gif ((l2 : Int32) < 15) (
    gd (inb ((15 * l1) + l2) 30) (
    gd (inb l2 5665) (
    let s1 := wI s 43 0 (ix l2) (rI s 46 0 (ix ((15 * l1) + l2)))
    K2 s1 l1 (l2 + 1))))
  (
    some s)
noncomputable def m_takesBack_b2 : Nat → Sg → Int32 → Int32 → Option Sg
  | 0 => fun _ _ _ => none
  | n + 1 => m_takesBack_b2_G (m_takesBack_b2 n)
noncomputable def t_m_takesBack_b2 (K2 : Sg → Int32 → Int32 → Option Sg) : Bk Sg := (s_ldI 2 (s_ic 15 (s_clt
  (s_ldA 0 (s_getRc 10 2 43 0 (s_ldI 2 (s_ldA 0 (s_getRc 10 5 46 0 (s_ic 15 (s_ldI 1 (s_bin (fun x y => x * y) (s_ldI 2 (s_bin (fun x y => x + y) (s_iald 46 30 (s_iast 43 5665 (s_inc 2 1 (s_goto (p_C 0 10 0 <| p_I 1 fun a1 => p_I 2 fun a2 => p_E fun s => K2 s a1 a2)))))))))))))))
  (s_vret retV))))
set_option maxRecDepth 20000 in
theorem e_m_takesBack_b2 (K2 : Sg → Int32 → Int32 → Option Sg) (s : Sg) (l1 : Int32) (l2 : Int32) : m_takesBack_b2_G K2 s l1 l2 = t_m_takesBack_b2 K2 [some (.inr (.inr (some (10, 0)))), some (.inl l1), some (.inl l2)] [] s := rfl
noncomputable def m_takesBack_G (K2 : Sg → Int32 → Int32 → Option Sg) (s : Sg) (l1 : Int32) : Option Sg :=
  K2 s l1 0
noncomputable def m_takesBack : Sg → Int32 → Option Sg := m_takesBack_G (m_takesBack_b2 FU)
noncomputable def t_m_takesBack (K2 : Sg → Int32 → Int32 → Option Sg) : Bk Sg := (s_ic 0 (s_stI 2 (p_C 0 10 0 <| p_I 1 fun a1 => p_I 2 fun a2 => p_E fun s => K2 s a1 a2)))
set_option maxRecDepth 20000 in
theorem e_m_takesBack (K2 : Sg → Int32 → Int32 → Option Sg) (s : Sg) (l1 : Int32) : m_takesBack_G K2 s l1 = t_m_takesBack K2 [some (.inr (.inr (some (10, 0)))), some (.inl l1), none] [] s := rfl
noncomputable def m_image_b17_G (K17 : Sg → Int32 → Int32 → Option (Sg × Int32)) (c_m_good : Sg → Int32 → Option (Sg × Int32)) (s : Sg) (l1 : Int32) (l2 : Int32) : Option (Sg × Int32) :=
  gif ((l2 : Int32) < 5665) (
    gd (inb l2 5665) (
    gd (inb ((5665 * l1) + l2) 11330) (
    let s1 := wI s 44 0 (ix ((5665 * l1) + l2)) (rI s 43 0 (ix l2))
    K17 s1 l1 (l2 + 1))))
  (
    gd (inb l1 2) (
    let s2 := wI s 45 0 (ix l1) (vp_nar .boolean 1)
    (c_m_good s2 0).bind fun q3 => (
    some (q3.1, q3.2))))
noncomputable def m_image_b17 : Nat → Sg → Int32 → Int32 → Option (Sg × Int32)
  | 0 => fun _ _ _ => none
  | n + 1 => m_image_b17_G (m_image_b17 n) m_good
noncomputable def t_m_image_b17 (K17 : Sg → Int32 → Int32 → Option (Sg × Int32)) (c_m_good : Sg → Int32 → Option (Sg × Int32)) : Bk (Sg × Int32) := (s_ldI 2 (s_ic 5665 (s_clt
  (s_ldA 0 (s_getRc 10 3 44 0 (s_ic 5665 (s_ldI 1 (s_bin (fun x y => x * y) (s_ldI 2 (s_bin (fun x y => x + y) (s_ldA 0 (s_getRc 10 2 43 0 (s_ldI 2 (s_iald 43 5665 (s_iast 44 11330 (s_inc 2 1 (s_goto (p_C 0 10 0 <| p_I 1 fun a1 => p_I 2 fun a2 => p_E fun s => K17 s a1 a2)))))))))))))))
  (s_ldA 0 (s_getRc 10 4 45 0 (s_ldI 1 (s_ic 1 (s_bast .boolean 45 2 (s_ldA 0 (s_ic 0 (s_call (FW_m_good c_m_good) 2 (s_iret retI))))))))))))
set_option maxRecDepth 20000 in
theorem e_m_image_b17 (K17 : Sg → Int32 → Int32 → Option (Sg × Int32)) (c_m_good : Sg → Int32 → Option (Sg × Int32)) (s : Sg) (l1 : Int32) (l2 : Int32) : m_image_b17_G K17 c_m_good s l1 l2 = t_m_image_b17 K17 c_m_good [some (.inr (.inr (some (10, 0)))), some (.inl l1), some (.inl l2)] [] s := rfl
noncomputable def m_image_G (K17 : Sg → Int32 → Int32 → Option (Sg × Int32)) (c_m_lies : Sg → Int32 → Int32 → Int32 → Option (Sg × Int32)) (c_m_refuses : Sg → Int32 → Option (Sg × Int32)) (s : Sg) (l1 : Int32) : Option (Sg × Int32) :=
  (c_m_lies s l1 0 1).bind fun q1 => (
  gif ((q1.2 : Int32) = 0) (
    (c_m_refuses q1.1 (-1)).bind fun q2 => (
    some (q2.1, q2.2)))
  (
    K17 q1.1 l1 0))
noncomputable def m_image : Sg → Int32 → Option (Sg × Int32) := m_image_G (m_image_b17 FU) m_lies m_refuses
noncomputable def t_m_image (K17 : Sg → Int32 → Int32 → Option (Sg × Int32)) (c_m_lies : Sg → Int32 → Int32 → Int32 → Option (Sg × Int32)) (c_m_refuses : Sg → Int32 → Option (Sg × Int32)) : Bk (Sg × Int32) := (s_ldI 1 (s_ic 0 (s_ic 1 (s_call (FW_m_lies c_m_lies) 3 (s_eq0
  (s_ldA 0 (s_ic (-1) (s_call (FW_m_refuses c_m_refuses) 2 (s_iret retI))))
  (s_ic 0 (s_stI 2 (p_C 0 10 0 <| p_I 1 fun a1 => p_I 2 fun a2 => p_E fun s => K17 s a1 a2))))))))
set_option maxRecDepth 20000 in
theorem e_m_image (K17 : Sg → Int32 → Int32 → Option (Sg × Int32)) (c_m_lies : Sg → Int32 → Int32 → Int32 → Option (Sg × Int32)) (c_m_refuses : Sg → Int32 → Option (Sg × Int32)) (s : Sg) (l1 : Int32) : m_image_G K17 c_m_lies c_m_refuses s l1 = t_m_image K17 c_m_lies c_m_refuses [some (.inr (.inr (some (10, 0)))), some (.inl l1), none] [] s := rfl
noncomputable def m_wordMany_G (s : Sg) : Option (Sg × Int32) :=
  gd (inb 54 5665) (
  some (s, (rI s 43 0 (ix 54))))
noncomputable def m_wordMany : Sg → Option (Sg × Int32) := m_wordMany_G
noncomputable def t_m_wordMany : Bk (Sg × Int32) := (s_ldA 0 (s_getRc 10 2 43 0 (s_ic 54 (s_iald 43 5665 (s_iret retI)))))
set_option maxRecDepth 20000 in
theorem e_m_wordMany (s : Sg) : m_wordMany_G s = t_m_wordMany [some (.inr (.inr (some (10, 0))))] [] s := rfl
noncomputable def m_laysAllWords_b10_G (K10 : Sg → Int32 → Option Sg) (s : Sg) (l1 : Int32) : Option Sg :=
  gif ((l1 : Int32) < (rI s 10 0 36)) (
    gd (inb l1 12) (
    let s1 := wI s 57 0 (ix l1) l1
    K10 s1 (l1 + 1)))
  (
    some s)
noncomputable def m_laysAllWords_b10 : Nat → Sg → Int32 → Option Sg
  | 0 => fun _ _ => none
  | n + 1 => m_laysAllWords_b10_G (m_laysAllWords_b10 n)
noncomputable def t_m_laysAllWords_b10 (K10 : Sg → Int32 → Option Sg) : Bk Sg := (s_ldI 1 (s_ldA 0 (s_getI 10 36 (s_clt
  (s_ldA 0 (s_getRc 10 35 57 0 (s_ldI 1 (s_ldI 1 (s_iast 57 12 (s_inc 1 1 (s_goto (p_C 0 10 0 <| p_I 1 fun a1 => p_E fun s => K10 s a1))))))))
  (s_vret retV)))))
set_option maxRecDepth 20000 in
theorem e_m_laysAllWords_b10 (K10 : Sg → Int32 → Option Sg) (s : Sg) (l1 : Int32) : m_laysAllWords_b10_G K10 s l1 = t_m_laysAllWords_b10 K10 [some (.inr (.inr (some (10, 0)))), some (.inl l1)] [] s := rfl
noncomputable def m_laysAllWords_G (K10 : Sg → Int32 → Option Sg) (c_m_wordMany : Sg → Option (Sg × Int32)) (s : Sg) : Option Sg :=
  (c_m_wordMany s).bind fun q1 => (
  let s2 := wI q1.1 10 0 36 q1.2
  K10 s2 0)
noncomputable def m_laysAllWords : Sg → Option Sg := m_laysAllWords_G (m_laysAllWords_b10 FU) m_wordMany
noncomputable def t_m_laysAllWords (K10 : Sg → Int32 → Option Sg) (c_m_wordMany : Sg → Option (Sg × Int32)) : Bk Sg := (s_ldA 0 (s_ldA 0 (s_call (FW_m_wordMany c_m_wordMany) 1 (s_putI 10 36 (s_ic 0 (s_stI 1 (p_C 0 10 0 <| p_I 1 fun a1 => p_E fun s => K10 s a1)))))))
set_option maxRecDepth 20000 in
theorem e_m_laysAllWords (K10 : Sg → Int32 → Option Sg) (c_m_wordMany : Sg → Option (Sg × Int32)) (s : Sg) : m_laysAllWords_G K10 c_m_wordMany s = t_m_laysAllWords K10 c_m_wordMany [some (.inr (.inr (some (10, 0)))), none] [] s := rfl
noncomputable def m_back_b33_G (K33 : Sg → Int32 → Int32 → Option (Sg × Int32)) (c_m_laysAllWords : Sg → Option Sg) (c_m_settled : Sg → Int32 → Option (Sg × Int32)) (s : Sg) (l1 : Int32) (l2 : Int32) : Option (Sg × Int32) :=
  gif ((l2 : Int32) < 5665) (
    gd (inb ((5665 * l1) + l2) 11330) (
    gd (inb l2 5665) (
    let s1 := wI s 43 0 (ix l2) (rI s 44 0 (ix ((5665 * l1) + l2)))
    K33 s1 l1 (l2 + 1))))
  (
    (c_m_laysAllWords s).bind fun s2 => (
    (c_m_settled s2 0).bind fun q3 => (
    some (q3.1, q3.2))))
noncomputable def m_back_b33 : Nat → Sg → Int32 → Int32 → Option (Sg × Int32)
  | 0 => fun _ _ _ => none
  | n + 1 => m_back_b33_G (m_back_b33 n) m_laysAllWords m_settled
noncomputable def t_m_back_b33 (K33 : Sg → Int32 → Int32 → Option (Sg × Int32)) (c_m_laysAllWords : Sg → Option Sg) (c_m_settled : Sg → Int32 → Option (Sg × Int32)) : Bk (Sg × Int32) := (s_ldI 2 (s_ic 5665 (s_clt
  (s_ldA 0 (s_getRc 10 2 43 0 (s_ldI 2 (s_ldA 0 (s_getRc 10 3 44 0 (s_ic 5665 (s_ldI 1 (s_bin (fun x y => x * y) (s_ldI 2 (s_bin (fun x y => x + y) (s_iald 44 11330 (s_iast 43 5665 (s_inc 2 1 (s_goto (p_C 0 10 0 <| p_I 1 fun a1 => p_I 2 fun a2 => p_E fun s => K33 s a1 a2)))))))))))))))
  (s_ldA 0 (s_call (FW_m_laysAllWords c_m_laysAllWords) 1 (s_ldA 0 (s_ic 0 (s_call (FW_m_settled c_m_settled) 2 (s_iret retI)))))))))
set_option maxRecDepth 20000 in
theorem e_m_back_b33 (K33 : Sg → Int32 → Int32 → Option (Sg × Int32)) (c_m_laysAllWords : Sg → Option Sg) (c_m_settled : Sg → Int32 → Option (Sg × Int32)) (s : Sg) (l1 : Int32) (l2 : Int32) : m_back_b33_G K33 c_m_laysAllWords c_m_settled s l1 l2 = t_m_back_b33 K33 c_m_laysAllWords c_m_settled [some (.inr (.inr (some (10, 0)))), some (.inl l1), some (.inl l2)] [] s := rfl
noncomputable def m_back_G (K33 : Sg → Int32 → Int32 → Option (Sg × Int32)) (c_m_lies : Sg → Int32 → Int32 → Int32 → Option (Sg × Int32)) (c_m_refuses : Sg → Int32 → Option (Sg × Int32)) (s : Sg) (l1 : Int32) : Option (Sg × Int32) :=
  (c_m_lies s l1 0 1).bind fun q1 => (
  gif ((q1.2 : Int32) = 0) (
    (c_m_refuses q1.1 (-1)).bind fun q2 => (
    some (q2.1, q2.2)))
  (
    gd (inb l1 2) (
    gif (((rI q1.1 45 0 (ix l1)) : Int32) = 0) (
      (c_m_refuses q1.1 (-2)).bind fun q3 => (
      some (q3.1, q3.2)))
    (
      K33 q1.1 l1 0))))
noncomputable def m_back : Sg → Int32 → Option (Sg × Int32) := m_back_G (m_back_b33 FU) m_lies m_refuses
noncomputable def t_m_back (K33 : Sg → Int32 → Int32 → Option (Sg × Int32)) (c_m_lies : Sg → Int32 → Int32 → Int32 → Option (Sg × Int32)) (c_m_refuses : Sg → Int32 → Option (Sg × Int32)) : Bk (Sg × Int32) := (s_ldI 1 (s_ic 0 (s_ic 1 (s_call (FW_m_lies c_m_lies) 3 (s_eq0
  (s_ldA 0 (s_ic (-1) (s_call (FW_m_refuses c_m_refuses) 2 (s_iret retI))))
  (s_ldA 0 (s_getRc 10 4 45 0 (s_ldI 1 (s_bald 45 2 (s_eq0
    (s_ldA 0 (s_ic (-2) (s_call (FW_m_refuses c_m_refuses) 2 (s_iret retI))))
    (s_ic 0 (s_stI 2 (p_C 0 10 0 <| p_I 1 fun a1 => p_I 2 fun a2 => p_E fun s => K33 s a1 a2)))))))))))))
set_option maxRecDepth 20000 in
theorem e_m_back (K33 : Sg → Int32 → Int32 → Option (Sg × Int32)) (c_m_lies : Sg → Int32 → Int32 → Int32 → Option (Sg × Int32)) (c_m_refuses : Sg → Int32 → Option (Sg × Int32)) (s : Sg) (l1 : Int32) : m_back_G K33 c_m_lies c_m_refuses s l1 = t_m_back K33 c_m_lies c_m_refuses [some (.inr (.inr (some (10, 0)))), some (.inl l1), none] [] s := rfl
noncomputable def m_isWord_G (c_m_wordMany : Sg → Option (Sg × Int32)) (c_m_lies : Sg → Int32 → Int32 → Int32 → Option (Sg × Int32)) (s : Sg) (l1 : Int32) : Option (Sg × Int32) :=
  (c_m_wordMany s).bind fun q1 => (
  (c_m_lies q1.1 l1 0 (q1.2 - 1)).bind fun q2 => (
  gd (isB q2.2) (some (q2.1, q2.2))))
noncomputable def m_isWord : Sg → Int32 → Option (Sg × Int32) := m_isWord_G m_wordMany m_lies
noncomputable def t_m_isWord (c_m_wordMany : Sg → Option (Sg × Int32)) (c_m_lies : Sg → Int32 → Int32 → Int32 → Option (Sg × Int32)) : Bk (Sg × Int32) := (s_ldI 1 (s_ic 0 (s_ldA 0 (s_call (FW_m_wordMany c_m_wordMany) 1 (s_ic 1 (s_bin (fun x y => x - y) (s_call (FW_m_lies c_m_lies) 3 (s_zret retI))))))))
set_option maxRecDepth 20000 in
theorem e_m_isWord (c_m_wordMany : Sg → Option (Sg × Int32)) (c_m_lies : Sg → Int32 → Int32 → Int32 → Option (Sg × Int32)) (s : Sg) (l1 : Int32) : m_isWord_G c_m_wordMany c_m_lies s l1 = t_m_isWord c_m_wordMany c_m_lies [some (.inr (.inr (some (10, 0)))), some (.inl l1)] [] s := rfl
noncomputable def m_isLast_G (c_m_wordMany : Sg → Option (Sg × Int32)) (s : Sg) (l1 : Int32) : Option (Sg × Int32) :=
  (c_m_wordMany s).bind fun q1 => (
  gif ((l1 : Int32) = (q1.2 - 1)) (
    gd (isB 1) (some (q1.1, 1)))
  (
    gd (isB 0) (some (q1.1, 0))))
noncomputable def m_isLast : Sg → Int32 → Option (Sg × Int32) := m_isLast_G m_wordMany
noncomputable def t_m_isLast (c_m_wordMany : Sg → Option (Sg × Int32)) : Bk (Sg × Int32) := (s_ldI 1 (s_ldA 0 (s_call (FW_m_wordMany c_m_wordMany) 1 (s_ic 1 (s_bin (fun x y => x - y) (s_ceq
  (s_ic 1 (s_goto (s_zret retI)))
  (s_ic 0 (s_zret retI))))))))
set_option maxRecDepth 20000 in
theorem e_m_isLast (c_m_wordMany : Sg → Option (Sg × Int32)) (s : Sg) (l1 : Int32) : m_isLast_G c_m_wordMany s l1 = t_m_isLast c_m_wordMany [some (.inr (.inr (some (10, 0)))), some (.inl l1)] [] s := rfl
noncomputable def m_endsAfter_G (c_m_isLast : Sg → Int32 → Option (Sg × Int32)) (c_m_isIn : Sg → Int32 → Int32 → Option (Sg × Int32)) (s : Sg) (l1 : Int32) : Option (Sg × Int32) :=
  (c_m_isLast s l1).bind fun q1 => (
  gif ((q1.2 : Int32) = 0) (
    gd (inb 0 5665) (
    (c_m_isIn q1.1 (rI q1.1 43 0 (ix 0)) l1).bind fun q2 => (
    gif ((q2.2 : Int32) = 0) (
      gd (isB 0) (some (q2.1, 0)))
    (
      gd (isB 1) (some (q2.1, 1))))))
  (
    gd (isB 1) (some (q1.1, 1))))
noncomputable def m_endsAfter : Sg → Int32 → Option (Sg × Int32) := m_endsAfter_G m_isLast m_isIn
noncomputable def t_m_endsAfter (c_m_isLast : Sg → Int32 → Option (Sg × Int32)) (c_m_isIn : Sg → Int32 → Int32 → Option (Sg × Int32)) : Bk (Sg × Int32) := (s_ldA 0 (s_ldI 1 (s_call (FW_m_isLast c_m_isLast) 2 (s_eq0
  (s_ldA 0 (s_getRc 10 2 43 0 (s_ic 0 (s_iald 43 5665 (s_ldI 1 (s_call (FW_m_isIn c_m_isIn) 2 (s_eq0
    (s_ic 0 (s_zret retI))
    (s_ic 1 (s_goto (s_zret retI))))))))))
  (s_ic 1 (s_goto (s_zret retI)))))))
set_option maxRecDepth 20000 in
theorem e_m_endsAfter (c_m_isLast : Sg → Int32 → Option (Sg × Int32)) (c_m_isIn : Sg → Int32 → Int32 → Option (Sg × Int32)) (s : Sg) (l1 : Int32) : m_endsAfter_G c_m_isLast c_m_isIn s l1 = t_m_endsAfter c_m_isLast c_m_isIn [some (.inr (.inr (some (10, 0)))), some (.inl l1)] [] s := rfl
noncomputable def m_isSplit_G (c_m_isIn : Sg → Int32 → Int32 → Option (Sg × Int32)) (s : Sg) (l1 : Int32) : Option (Sg × Int32) :=
  gd (inb 1 5665) (
  (c_m_isIn s (rI s 43 0 (ix 1)) l1).bind fun q1 => (
  gd (isB q1.2) (some (q1.1, q1.2))))
noncomputable def m_isSplit : Sg → Int32 → Option (Sg × Int32) := m_isSplit_G m_isIn
noncomputable def t_m_isSplit (c_m_isIn : Sg → Int32 → Int32 → Option (Sg × Int32)) : Bk (Sg × Int32) := (s_ldA 0 (s_getRc 10 2 43 0 (s_ic 1 (s_iald 43 5665 (s_ldI 1 (s_call (FW_m_isIn c_m_isIn) 2 (s_zret retI)))))))
set_option maxRecDepth 20000 in
theorem e_m_isSplit (c_m_isIn : Sg → Int32 → Int32 → Option (Sg × Int32)) (s : Sg) (l1 : Int32) : m_isSplit_G c_m_isIn s l1 = t_m_isSplit c_m_isIn [some (.inr (.inr (some (10, 0)))), some (.inl l1)] [] s := rfl
noncomputable def m_canWord_G (c_m_lies : Sg → Int32 → Int32 → Int32 → Option (Sg × Int32)) (s : Sg) (l0 : Int32) (l1 : Int32) (l2 : Int32) : Option (Sg × Int32) :=
  (c_m_lies s l0 1 20).bind fun q1 => (
  gif ((q1.2 : Int32) = 0) (
    gd (isB 0) (some (q1.1, 0)))
  (
    (c_m_lies q1.1 l1 0 (l0 - 1)).bind fun q2 => (
    gif ((q2.2 : Int32) = 0) (
      gd (isB 0) (some (q2.1, 0)))
    (
      (c_m_lies q2.1 l2 0 3).bind fun q3 => (
      gif ((q3.2 : Int32) = 0) (
        gd (isB 0) (some (q3.1, 0)))
      (
        gd (isB 1) (some (q3.1, 1))))))))
noncomputable def m_canWord : Sg → Int32 → Int32 → Int32 → Option (Sg × Int32) := m_canWord_G m_lies
noncomputable def t_m_canWord (c_m_lies : Sg → Int32 → Int32 → Int32 → Option (Sg × Int32)) : Bk (Sg × Int32) := (s_ldI 0 (s_ic 1 (s_ic 20 (s_call (FW_m_lies c_m_lies) 3 (s_eq0
  (s_ic 0 (s_zret retI))
  (s_ldI 1 (s_ic 0 (s_ldI 0 (s_ic 1 (s_bin (fun x y => x - y) (s_call (FW_m_lies c_m_lies) 3 (s_eq0
    (s_ic 0 (s_zret retI))
    (s_ldI 2 (s_ic 0 (s_ic 3 (s_call (FW_m_lies c_m_lies) 3 (s_eq0
      (s_ic 0 (s_zret retI))
      (s_ic 1 (s_goto (s_zret retI))))))))))))))))))))
set_option maxRecDepth 20000 in
theorem e_m_canWord (c_m_lies : Sg → Int32 → Int32 → Int32 → Option (Sg × Int32)) (s : Sg) (l0 : Int32) (l1 : Int32) (l2 : Int32) : m_canWord_G c_m_lies s l0 l1 l2 = t_m_canWord c_m_lies [some (.inl l0), some (.inl l1), some (.inl l2)] [] s := rfl
noncomputable def m_adds_G (c_m_wordMany : Sg → Option (Sg × Int32)) (c_m_laysAllWords : Sg → Option Sg) (s : Sg) (l1 : Int32) (l2 : Int32) (l3 : Int32) : Option Sg :=
  (c_m_wordMany s).bind fun q1 => (
  gd (inb (2 + q1.2) 5665) (
  let s2 := wI q1.1 43 0 (ix (2 + q1.2)) l1
  gd (inb (15 + q1.2) 5665) (
  let s3 := wI s2 43 0 (ix (15 + q1.2)) l2
  gd (inb (27 + q1.2) 5665) (
  let s4 := wI s3 43 0 (ix (27 + q1.2)) l3
  gd (inb 0 5665) (
  gd (inb 0 5665) (
  let s5 := wI s4 43 0 (ix 0) ((rI s4 43 0 (ix 0)) &&& ((1 <<< (q1.2 &&& 31)) ^^^ (-1)))
  gd (inb 1 5665) (
  gd (inb 1 5665) (
  let s6 := wI s5 43 0 (ix 1) ((rI s5 43 0 (ix 1)) &&& ((1 <<< (q1.2 &&& 31)) ^^^ (-1)))
  gd (inb 54 5665) (
  gd (inb 54 5665) (
  let s7 := wI s6 43 0 (ix 54) ((rI s6 43 0 (ix 54)) + 1)
  (c_m_laysAllWords s7).bind fun s8 => (
  some s8)))))))))))
noncomputable def m_adds : Sg → Int32 → Int32 → Int32 → Option Sg := m_adds_G m_wordMany m_laysAllWords
noncomputable def t_m_adds (c_m_wordMany : Sg → Option (Sg × Int32)) (c_m_laysAllWords : Sg → Option Sg) : Bk Sg := (s_ldA 0 (s_call (FW_m_wordMany c_m_wordMany) 1 (s_stI 4 (s_ldA 0 (s_getRc 10 2 43 0 (s_ic 2 (s_ldI 4 (s_bin (fun x y => x + y) (s_ldI 1 (s_iast 43 5665 (s_ldA 0 (s_getRc 10 2 43 0 (s_ic 15 (s_ldI 4 (s_bin (fun x y => x + y) (s_ldI 2 (s_iast 43 5665 (s_ldA 0 (s_getRc 10 2 43 0 (s_ic 27 (s_ldI 4 (s_bin (fun x y => x + y) (s_ldI 3 (s_iast 43 5665 (s_ldA 0 (s_getRc 10 2 43 0 (s_ic 0 (s_dup2 (s_iald 43 5665 (s_ic 1 (s_ldI 4 (s_bin (fun x y => x <<< (y &&& 31)) (s_ic (-1) (s_bin (fun x y => x ^^^ y) (s_bin (fun x y => x &&& y) (s_iast 43 5665 (s_ldA 0 (s_getRc 10 2 43 0 (s_ic 1 (s_dup2 (s_iald 43 5665 (s_ic 1 (s_ldI 4 (s_bin (fun x y => x <<< (y &&& 31)) (s_ic (-1) (s_bin (fun x y => x ^^^ y) (s_bin (fun x y => x &&& y) (s_iast 43 5665 (s_ldA 0 (s_getRc 10 2 43 0 (s_ic 54 (s_dup2 (s_iald 43 5665 (s_ic 1 (s_bin (fun x y => x + y) (s_iast 43 5665 (s_ldA 0 (s_call (FW_m_laysAllWords c_m_laysAllWords) 1 (s_vret retV)))))))))))))))))))))))))))))))))))))))))))))))))))))))))))
set_option maxRecDepth 20000 in
theorem e_m_adds (c_m_wordMany : Sg → Option (Sg × Int32)) (c_m_laysAllWords : Sg → Option Sg) (s : Sg) (l1 : Int32) (l2 : Int32) (l3 : Int32) : m_adds_G c_m_wordMany c_m_laysAllWords s l1 l2 l3 = t_m_adds c_m_wordMany c_m_laysAllWords [some (.inr (.inr (some (10, 0)))), some (.inl l1), some (.inl l2), some (.inl l3), none] [] s := rfl
noncomputable def m_word_G (c_m_canWord : Sg → Int32 → Int32 → Int32 → Option (Sg × Int32)) (c_m_refuses : Sg → Int32 → Option (Sg × Int32)) (c_m_wordMany : Sg → Option (Sg × Int32)) (c_m_adds : Sg → Int32 → Int32 → Int32 → Option Sg) (c_m_settled : Sg → Int32 → Option (Sg × Int32)) (s : Sg) (l1 : Int32) (l2 : Int32) (l3 : Int32) : Option (Sg × Int32) :=
  (c_m_canWord s l1 l2 l3).bind fun q1 => (
  gif ((q1.2 : Int32) = 0) (
    (c_m_refuses q1.1 (-1)).bind fun q2 => (
    some (q2.1, q2.2)))
  (
    (c_m_wordMany q1.1).bind fun q3 => (
    gif ((q3.2 : Int32) = 12) (
      (c_m_refuses q3.1 (-5)).bind fun q4 => (
      some (q4.1, q4.2)))
    (
      (c_m_adds q3.1 l1 l2 l3).bind fun s5 => (
      (c_m_wordMany s5).bind fun q6 => (
      (c_m_settled q6.1 (q6.2 - 1)).bind fun q7 => (
      some (q7.1, q7.2))))))))
noncomputable def m_word : Sg → Int32 → Int32 → Int32 → Option (Sg × Int32) := m_word_G m_canWord m_refuses m_wordMany m_adds m_settled
noncomputable def t_m_word (c_m_canWord : Sg → Int32 → Int32 → Int32 → Option (Sg × Int32)) (c_m_refuses : Sg → Int32 → Option (Sg × Int32)) (c_m_wordMany : Sg → Option (Sg × Int32)) (c_m_adds : Sg → Int32 → Int32 → Int32 → Option Sg) (c_m_settled : Sg → Int32 → Option (Sg × Int32)) : Bk (Sg × Int32) := (s_ldI 1 (s_ldI 2 (s_ldI 3 (s_call (FW_m_canWord c_m_canWord) 3 (s_eq0
  (s_ldA 0 (s_ic (-1) (s_call (FW_m_refuses c_m_refuses) 2 (s_iret retI))))
  (s_ldA 0 (s_call (FW_m_wordMany c_m_wordMany) 1 (s_ic 12 (s_ceq
    (s_ldA 0 (s_ic (-5) (s_call (FW_m_refuses c_m_refuses) 2 (s_iret retI))))
    (s_ldA 0 (s_ldI 1 (s_ldI 2 (s_ldI 3 (s_call (FW_m_adds c_m_adds) 4 (s_ldA 0 (s_ldA 0 (s_call (FW_m_wordMany c_m_wordMany) 1 (s_ic 1 (s_bin (fun x y => x - y) (s_call (FW_m_settled c_m_settled) 2 (s_iret retI)))))))))))))))))))))
set_option maxRecDepth 20000 in
theorem e_m_word (c_m_canWord : Sg → Int32 → Int32 → Int32 → Option (Sg × Int32)) (c_m_refuses : Sg → Int32 → Option (Sg × Int32)) (c_m_wordMany : Sg → Option (Sg × Int32)) (c_m_adds : Sg → Int32 → Int32 → Int32 → Option Sg) (c_m_settled : Sg → Int32 → Option (Sg × Int32)) (s : Sg) (l1 : Int32) (l2 : Int32) (l3 : Int32) : m_word_G c_m_canWord c_m_refuses c_m_wordMany c_m_adds c_m_settled s l1 l2 l3 = t_m_word c_m_canWord c_m_refuses c_m_wordMany c_m_adds c_m_settled [some (.inr (.inr (some (10, 0)))), some (.inl l1), some (.inl l2), some (.inl l3)] [] s := rfl
noncomputable def m_of_G (c_m_isWord : Sg → Int32 → Option (Sg × Int32)) (c_m_endsAfter : Sg → Int32 → Option (Sg × Int32)) (c_m_isSplit : Sg → Int32 → Option (Sg × Int32)) (s : Sg) (l1 : Int32) (l2 : Int32) : Option (Sg × Int32) :=
  (c_m_isWord s l1).bind fun q1 => (
  gif ((q1.2 : Int32) = 0) (
    some (q1.1, (-1)))
  (
    gif ((l2 : Int32) = 0) (
      gd (inb (2 + l1) 5665) (
      some (q1.1, (rI q1.1 43 0 (ix (2 + l1))))))
    (
    gif ((l2 : Int32) = 1) (
      gd (inb (15 + l1) 5665) (
      some (q1.1, (rI q1.1 43 0 (ix (15 + l1))))))
    (
    gif ((l2 : Int32) = 2) (
      gd (inb (27 + l1) 5665) (
      some (q1.1, (rI q1.1 43 0 (ix (27 + l1))))))
    (
    gif ((l2 : Int32) = 3) (
      (c_m_endsAfter q1.1 l1).bind fun q2 => (
      gif ((q2.2 : Int32) = 0) (
        some (q2.1, 0))
      (
        some (q2.1, 1))))
    (
    gif ((l2 : Int32) = 4) (
      (c_m_isSplit q1.1 l1).bind fun q3 => (
      gif ((q3.2 : Int32) = 0) (
        some (q3.1, 0))
      (
        some (q3.1, 1))))
    (
      some (q1.1, (-1)))))))))
noncomputable def m_of : Sg → Int32 → Int32 → Option (Sg × Int32) := m_of_G m_isWord m_endsAfter m_isSplit
noncomputable def t_m_of (c_m_isWord : Sg → Int32 → Option (Sg × Int32)) (c_m_endsAfter : Sg → Int32 → Option (Sg × Int32)) (c_m_isSplit : Sg → Int32 → Option (Sg × Int32)) : Bk (Sg × Int32) := (s_ldA 0 (s_ldI 1 (s_call (FW_m_isWord c_m_isWord) 2 (s_eq0
  (s_ic (-1) (s_iret retI))
  (s_ldI 2 (s_sw [(0, (s_ldA 0 (s_getRc 10 2 43 0 (s_ic 2 (s_ldI 1 (s_bin (fun x y => x + y) (s_iald 43 5665 (s_iret retI)))))))),
    (1, (s_ldA 0 (s_getRc 10 2 43 0 (s_ic 15 (s_ldI 1 (s_bin (fun x y => x + y) (s_iald 43 5665 (s_iret retI)))))))),
    (2, (s_ldA 0 (s_getRc 10 2 43 0 (s_ic 27 (s_ldI 1 (s_bin (fun x y => x + y) (s_iald 43 5665 (s_iret retI)))))))),
    (3, (s_ldA 0 (s_ldI 1 (s_call (FW_m_endsAfter c_m_endsAfter) 2 (s_eq0
      (s_ic 0 (s_iret retI))
      (s_ic 1 (s_goto (s_iret retI)))))))),
    (4, (s_ldA 0 (s_ldI 1 (s_call (FW_m_isSplit c_m_isSplit) 2 (s_eq0
      (s_ic 0 (s_iret retI))
      (s_ic 1 (s_goto (s_iret retI))))))))]
    (s_ic (-1) (s_iret retI))))))))
set_option maxRecDepth 20000 in
theorem e_m_of (c_m_isWord : Sg → Int32 → Option (Sg × Int32)) (c_m_endsAfter : Sg → Int32 → Option (Sg × Int32)) (c_m_isSplit : Sg → Int32 → Option (Sg × Int32)) (s : Sg) (l1 : Int32) (l2 : Int32) : m_of_G c_m_isWord c_m_endsAfter c_m_isSplit s l1 l2 = t_m_of c_m_isWord c_m_endsAfter c_m_isSplit [some (.inr (.inr (some (10, 0)))), some (.inl l1), some (.inl l2)] [] s := rfl
noncomputable def m_isTerm_G (c_m_lies : Sg → Int32 → Int32 → Int32 → Option (Sg × Int32)) (s : Sg) (l0 : Int32) (l1 : Int32) : Option (Sg × Int32) :=
  gif ((l0 : Int32) = 0) (
    (c_m_lies s l1 0 999).bind fun q1 => (
    gd (isB q1.2) (some (q1.1, q1.2))))
  (
  gif ((l0 : Int32) = 1) (
    (c_m_lies s l1 0 10).bind fun q2 => (
    gd (isB q2.2) (some (q2.1, q2.2))))
  (
  gif ((l0 : Int32) = 2) (
    (c_m_lies s l1 0 9).bind fun q3 => (
    gd (isB q3.2) (some (q3.1, q3.2))))
  (
  gif ((l0 : Int32) = 3) (
    (c_m_lies s l1 10 60).bind fun q4 => (
    gd (isB q4.2) (some (q4.1, q4.2))))
  (
    gd (isB 0) (some (s, 0))))))
noncomputable def m_isTerm : Sg → Int32 → Int32 → Option (Sg × Int32) := m_isTerm_G m_lies
noncomputable def t_m_isTerm (c_m_lies : Sg → Int32 → Int32 → Int32 → Option (Sg × Int32)) : Bk (Sg × Int32) := (s_ldI 0 (s_sw [(0, (s_ldI 1 (s_ic 0 (s_ic 999 (s_call (FW_m_lies c_m_lies) 3 (s_zret retI)))))),
  (1, (s_ldI 1 (s_ic 0 (s_ic 10 (s_call (FW_m_lies c_m_lies) 3 (s_zret retI)))))),
  (2, (s_ldI 1 (s_ic 0 (s_ic 9 (s_call (FW_m_lies c_m_lies) 3 (s_zret retI)))))),
  (3, (s_ldI 1 (s_ic 10 (s_ic 60 (s_call (FW_m_lies c_m_lies) 3 (s_zret retI))))))]
  (s_ic 0 (s_zret retI))))
set_option maxRecDepth 20000 in
theorem e_m_isTerm (c_m_lies : Sg → Int32 → Int32 → Int32 → Option (Sg × Int32)) (s : Sg) (l0 : Int32) (l1 : Int32) : m_isTerm_G c_m_lies s l0 l1 = t_m_isTerm c_m_lies [some (.inl l0), some (.inl l1)] [] s := rfl
noncomputable def m_termAt_G (s : Sg) (l0 : Int32) : Option (Sg × Int32) :=
  gif ((l0 : Int32) = 0) (
    some (s, 14))
  (
    gif ((l0 : Int32) = 1) (
      some (s, 51))
    (
      gif ((l0 : Int32) = 2) (
        some (s, 52))
      (
        some (s, 53))))
noncomputable def m_termAt : Sg → Int32 → Option (Sg × Int32) := m_termAt_G
noncomputable def t_m_termAt : Bk (Sg × Int32) := (s_ldI 0 (s_eq0
  (s_ic 14 (s_goto (s_iret retI)))
  (s_ldI 0 (s_ic 1 (s_ceq
    (s_ic 51 (s_goto (s_iret retI)))
    (s_ldI 0 (s_ic 2 (s_ceq
      (s_ic 52 (s_goto (s_iret retI)))
      (s_ic 53 (s_iret retI))))))))))
set_option maxRecDepth 20000 in
theorem e_m_termAt (s : Sg) (l0 : Int32) : m_termAt_G s l0 = t_m_termAt [some (.inl l0)] [] s := rfl
noncomputable def m_terms_G (c_m_isTerm : Sg → Int32 → Int32 → Option (Sg × Int32)) (c_m_refuses : Sg → Int32 → Option (Sg × Int32)) (c_m_termAt : Sg → Int32 → Option (Sg × Int32)) (c_m_settled : Sg → Int32 → Option (Sg × Int32)) (s : Sg) (l1 : Int32) (l2 : Int32) : Option (Sg × Int32) :=
  (c_m_isTerm s l1 l2).bind fun q1 => (
  gif ((q1.2 : Int32) = 0) (
    (c_m_refuses q1.1 (-1)).bind fun q2 => (
    some (q2.1, q2.2)))
  (
    (c_m_termAt q1.1 l1).bind fun q3 => (
    gd (inb q3.2 5665) (
    (c_m_termAt q3.1 l1).bind fun q4 => (
    gd (inb q4.2 5665) (
    let s5 := wI q4.1 43 0 (ix q4.2) l2
    (c_m_settled s5 (rI q3.1 43 0 (ix q3.2))).bind fun q6 => (
    some (q6.1, q6.2))))))))
noncomputable def m_terms : Sg → Int32 → Int32 → Option (Sg × Int32) := m_terms_G m_isTerm m_refuses m_termAt m_settled
noncomputable def t_m_terms (c_m_isTerm : Sg → Int32 → Int32 → Option (Sg × Int32)) (c_m_refuses : Sg → Int32 → Option (Sg × Int32)) (c_m_termAt : Sg → Int32 → Option (Sg × Int32)) (c_m_settled : Sg → Int32 → Option (Sg × Int32)) : Bk (Sg × Int32) := (s_ldI 1 (s_ldI 2 (s_call (FW_m_isTerm c_m_isTerm) 2 (s_eq0
  (s_ldA 0 (s_ic (-1) (s_call (FW_m_refuses c_m_refuses) 2 (s_iret retI))))
  (s_ldA 0 (s_getRc 10 2 43 0 (s_ldI 1 (s_call (FW_m_termAt c_m_termAt) 1 (s_iald 43 5665 (s_stI 3 (s_ldA 0 (s_getRc 10 2 43 0 (s_ldI 1 (s_call (FW_m_termAt c_m_termAt) 1 (s_ldI 2 (s_iast 43 5665 (s_ldA 0 (s_ldI 3 (s_call (FW_m_settled c_m_settled) 2 (s_iret retI))))))))))))))))))))
set_option maxRecDepth 20000 in
theorem e_m_terms (c_m_isTerm : Sg → Int32 → Int32 → Option (Sg × Int32)) (c_m_refuses : Sg → Int32 → Option (Sg × Int32)) (c_m_termAt : Sg → Int32 → Option (Sg × Int32)) (c_m_settled : Sg → Int32 → Option (Sg × Int32)) (s : Sg) (l1 : Int32) (l2 : Int32) : m_terms_G c_m_isTerm c_m_refuses c_m_termAt c_m_settled s l1 l2 = t_m_terms c_m_isTerm c_m_refuses c_m_termAt c_m_settled [some (.inr (.inr (some (10, 0)))), some (.inl l1), some (.inl l2), none] [] s := rfl
noncomputable def m_row_b133_G (K40 : Sg → Int32 → Int32 → Int32 → Option (Sg × Int32)) (s : Sg) (l1 : Int32) (l3 : Int32) (l4 : Int32) (y0 : Int32) (y1 : Int32) : Option (Sg × Int32) :=
  gif ((l4 : Int32) = 0) (
    let s1 := wI s 10 0 6 ((rI s 10 0 6) + 1)
    K40 s1 l1 (y0 + y1) (l3 + 3))
  (
    let s2 := wI s 10 0 6 ((rI s 10 0 6) + 0)
    K40 s2 l1 (y0 + y1) (l3 + 3))
noncomputable def m_row_b133 (K40 : Sg → Int32 → Int32 → Int32 → Option (Sg × Int32)) : Sg → Int32 → Int32 → Int32 → Int32 → Int32 → Option (Sg × Int32) := m_row_b133_G K40
noncomputable def t_m_row_b133 (K40 : Sg → Int32 → Int32 → Int32 → Option (Sg × Int32)) : Bk (Sg × Int32) := (s_bin (fun x y => x + y) (s_stI 2 (s_ldA 0 (s_dup (s_getI 10 6 (s_ldI 4 (s_eq0
  (s_ic 1 (s_bin (fun x y => x + y) (s_putI 10 6 (s_inc 3 3 (s_goto (p_C 0 10 0 <| p_I 1 fun a1 => p_I 2 fun a2 => p_I 3 fun a3 => p_E fun s => K40 s a1 a2 a3))))))
  (s_ic 0 (s_goto (s_bin (fun x y => x + y) (s_putI 10 6 (s_inc 3 3 (s_goto (p_C 0 10 0 <| p_I 1 fun a1 => p_I 2 fun a2 => p_I 3 fun a3 => p_E fun s => K40 s a1 a2 a3))))))))))))))
set_option maxRecDepth 20000 in
theorem e_m_row_b133 (K40 : Sg → Int32 → Int32 → Int32 → Option (Sg × Int32)) (s : Sg) (l1 : Int32) (l3 : Int32) (l4 : Int32) (y0 : Int32) (y1 : Int32) : m_row_b133_G K40 s l1 l3 l4 y0 y1 = t_m_row_b133 K40 [some (.inr (.inr (some (10, 0)))), some (.inl l1), none, some (.inl l3), some (.inl l4)] [.inl y1, .inl y0] s := rfl
noncomputable def m_row_b89_G (K133 : Sg → Int32 → Int32 → Int32 → Int32 → Int32 → Option (Sg × Int32)) (c_m_adds : Sg → Int32 → Int32 → Int32 → Option Sg) (s : Sg) (l1 : Int32) (l2 : Int32) (l3 : Int32) (y0 : Int32) : Option (Sg × Int32) :=
  gif ((y0 : Int32) = 0) (
    gif ((y0 : Int32) = 0) (
      K133 s l1 l3 y0 l2 0)
    (
      K133 s l1 l3 y0 l2 1))
  (
    gd (inb l3 400) (
    gd (inb (l3 + 1) 400) (
    gd (inb (l3 + 2) 400) (
    (c_m_adds s (rI s 48 0 (ix l3)) (rI s 48 0 (ix (l3 + 1))) (rI s 48 0 (ix (l3 + 2)))).bind fun s1 => (
    gif ((y0 : Int32) = 0) (
      K133 s1 l1 l3 y0 l2 0)
    (
      K133 s1 l1 l3 y0 l2 1))))))
noncomputable def m_row_b89 (K40 : Sg → Int32 → Int32 → Int32 → Option (Sg × Int32)) : Sg → Int32 → Int32 → Int32 → Int32 → Option (Sg × Int32) := m_row_b89_G (m_row_b133 K40) m_adds
noncomputable def t_m_row_b89 (K133 : Sg → Int32 → Int32 → Int32 → Int32 → Int32 → Option (Sg × Int32)) (c_m_adds : Sg → Int32 → Int32 → Int32 → Option Sg) : Bk (Sg × Int32) := (s_stI 4 (s_ldI 4 (s_eq0
  (s_ldI 2 (s_ldI 4 (s_eq0
    (s_ic 0 (p_C 0 10 0 <| p_I 1 fun a1 => p_I 3 fun a3 => p_I 4 fun a4 => q_I fun b1 => q_I fun b0 => p_E fun s => K133 s a1 a3 a4 b0 b1))
    (s_ic 1 (s_goto (p_C 0 10 0 <| p_I 1 fun a1 => p_I 3 fun a3 => p_I 4 fun a4 => q_I fun b1 => q_I fun b0 => p_E fun s => K133 s a1 a3 a4 b0 b1))))))
  (s_ldA 0 (s_ldA 0 (s_getRc 10 11 48 0 (s_ldI 3 (s_bald 48 400 (s_ldA 0 (s_getRc 10 11 48 0 (s_ldI 3 (s_ic 1 (s_bin (fun x y => x + y) (s_bald 48 400 (s_ldA 0 (s_getRc 10 11 48 0 (s_ldI 3 (s_ic 2 (s_bin (fun x y => x + y) (s_bald 48 400 (s_call (FW_m_adds c_m_adds) 4 (s_ldI 2 (s_ldI 4 (s_eq0
    (s_ic 0 (p_C 0 10 0 <| p_I 1 fun a1 => p_I 3 fun a3 => p_I 4 fun a4 => q_I fun b1 => q_I fun b0 => p_E fun s => K133 s a1 a3 a4 b0 b1))
    (s_ic 1 (s_goto (p_C 0 10 0 <| p_I 1 fun a1 => p_I 3 fun a3 => p_I 4 fun a4 => q_I fun b1 => q_I fun b0 => p_E fun s => K133 s a1 a3 a4 b0 b1)))))))))))))))))))))))))))
set_option maxRecDepth 20000 in
theorem e_m_row_b89 (K133 : Sg → Int32 → Int32 → Int32 → Int32 → Int32 → Option (Sg × Int32)) (c_m_adds : Sg → Int32 → Int32 → Int32 → Option Sg) (s : Sg) (l1 : Int32) (l2 : Int32) (l3 : Int32) (y0 : Int32) : m_row_b89_G K133 c_m_adds s l1 l2 l3 y0 = t_m_row_b89 K133 c_m_adds [some (.inr (.inr (some (10, 0)))), some (.inl l1), some (.inl l2), some (.inl l3), none] [.inl y0] s := rfl
noncomputable def m_row_b40_G (K89 : Sg → Int32 → Int32 → Int32 → Int32 → Option (Sg × Int32)) (c_m_wordMany : Sg → Option (Sg × Int32)) (c_m_canWord : Sg → Int32 → Int32 → Int32 → Option (Sg × Int32)) (c_m_settled : Sg → Int32 → Option (Sg × Int32)) (s : Sg) (l1 : Int32) (l2 : Int32) (l3 : Int32) : Option (Sg × Int32) :=
  gif ((l1 : Int32) < (l3 + 3)) (
    (c_m_settled s l2).bind fun q1 => (
    some (q1.1, q1.2)))
  (
    (c_m_wordMany s).bind fun q2 => (
    gif ((q2.2 : Int32) < 12) (
      gd (inb l3 400) (
      gd (inb (l3 + 1) 400) (
      gd (inb (l3 + 2) 400) (
      (c_m_canWord q2.1 (rI q2.1 48 0 (ix l3)) (rI q2.1 48 0 (ix (l3 + 1))) (rI q2.1 48 0 (ix (l3 + 2)))).bind fun q3 => (
      gif ((q3.2 : Int32) = 0) (
        K89 q3.1 l1 l2 l3 0)
      (
        K89 q3.1 l1 l2 l3 1))))))
    (
      K89 q2.1 l1 l2 l3 0)))
noncomputable def m_row_b40 : Nat → Sg → Int32 → Int32 → Int32 → Option (Sg × Int32)
  | 0 => fun _ _ _ _ => none
  | n + 1 => m_row_b40_G (m_row_b89 (m_row_b40 n)) m_wordMany m_canWord m_settled
noncomputable def t_m_row_b40 (K89 : Sg → Int32 → Int32 → Int32 → Int32 → Option (Sg × Int32)) (c_m_wordMany : Sg → Option (Sg × Int32)) (c_m_canWord : Sg → Int32 → Int32 → Int32 → Option (Sg × Int32)) (c_m_settled : Sg → Int32 → Option (Sg × Int32)) : Bk (Sg × Int32) := (s_ldI 3 (s_ic 3 (s_bin (fun x y => x + y) (s_ldI 1 (s_cgt
  (s_ldA 0 (s_ldI 2 (s_call (FW_m_settled c_m_settled) 2 (s_iret retI))))
  (s_ldA 0 (s_call (FW_m_wordMany c_m_wordMany) 1 (s_ic 12 (s_clt
    (s_ldA 0 (s_getRc 10 11 48 0 (s_ldI 3 (s_bald 48 400 (s_ldA 0 (s_getRc 10 11 48 0 (s_ldI 3 (s_ic 1 (s_bin (fun x y => x + y) (s_bald 48 400 (s_ldA 0 (s_getRc 10 11 48 0 (s_ldI 3 (s_ic 2 (s_bin (fun x y => x + y) (s_bald 48 400 (s_call (FW_m_canWord c_m_canWord) 3 (s_eq0
      (s_ic 0 (p_C 0 10 0 <| p_I 1 fun a1 => p_I 2 fun a2 => p_I 3 fun a3 => q_I fun b0 => p_E fun s => K89 s a1 a2 a3 b0))
      (s_ic 1 (s_goto (p_C 0 10 0 <| p_I 1 fun a1 => p_I 2 fun a2 => p_I 3 fun a3 => q_I fun b0 => p_E fun s => K89 s a1 a2 a3 b0)))))))))))))))))))))
    (s_ic 0 (p_C 0 10 0 <| p_I 1 fun a1 => p_I 2 fun a2 => p_I 3 fun a3 => q_I fun b0 => p_E fun s => K89 s a1 a2 a3 b0)))))))))))
set_option maxRecDepth 20000 in
theorem e_m_row_b40 (K89 : Sg → Int32 → Int32 → Int32 → Int32 → Option (Sg × Int32)) (c_m_wordMany : Sg → Option (Sg × Int32)) (c_m_canWord : Sg → Int32 → Int32 → Int32 → Option (Sg × Int32)) (c_m_settled : Sg → Int32 → Option (Sg × Int32)) (s : Sg) (l1 : Int32) (l2 : Int32) (l3 : Int32) : m_row_b40_G K89 c_m_wordMany c_m_canWord c_m_settled s l1 l2 l3 = t_m_row_b40 K89 c_m_wordMany c_m_canWord c_m_settled [some (.inr (.inr (some (10, 0)))), some (.inl l1), some (.inl l2), some (.inl l3), none] [] s := rfl
noncomputable def m_row_G (K40 : Sg → Int32 → Int32 → Int32 → Option (Sg × Int32)) (c_m_refuses : Sg → Int32 → Option (Sg × Int32)) (s : Sg) : Option (Sg × Int32) :=
  let s1 := wI s 10 0 13 0
  gif (((rI s 10 0 13) : Int32) = 0) (
    (c_m_refuses s1 (-6)).bind fun q2 => (
    some (q2.1, q2.2)))
  (
    gd (¬ 3 = (0 : Int32)) (
    gif (((g_rem (rI s 10 0 13) 3) : Int32) = 0) (
      let s3 := wI s1 10 0 6 0
      K40 s3 (rI s 10 0 13) 0 0)
    (
      let s4 := wI s1 10 0 6 1
      K40 s4 (rI s 10 0 13) 0 0)))
noncomputable def m_row : Sg → Option (Sg × Int32) := m_row_G (m_row_b40 FU) m_refuses
noncomputable def t_m_row (K40 : Sg → Int32 → Int32 → Int32 → Option (Sg × Int32)) (c_m_refuses : Sg → Int32 → Option (Sg × Int32)) : Bk (Sg × Int32) := (s_ldA 0 (s_getI 10 13 (s_stI 1 (s_ldA 0 (s_ic 0 (s_putI 10 13 (s_ldI 1 (s_eq0
  (s_ldA 0 (s_ic (-6) (s_call (FW_m_refuses c_m_refuses) 2 (s_iret retI))))
  (s_ic 0 (s_stI 2 (s_ldA 0 (s_ldI 1 (s_ic 3 (s_div g_rem (s_eq0
    (s_ic 0 (s_goto (s_putI 10 6 (s_ic 0 (s_stI 3 (p_C 0 10 0 <| p_I 1 fun a1 => p_I 2 fun a2 => p_I 3 fun a3 => p_E fun s => K40 s a1 a2 a3))))))
    (s_ic 1 (s_putI 10 6 (s_ic 0 (s_stI 3 (p_C 0 10 0 <| p_I 1 fun a1 => p_I 2 fun a2 => p_I 3 fun a3 => p_E fun s => K40 s a1 a2 a3))))))))))))))))))))
set_option maxRecDepth 20000 in
theorem e_m_row (K40 : Sg → Int32 → Int32 → Int32 → Option (Sg × Int32)) (c_m_refuses : Sg → Int32 → Option (Sg × Int32)) (s : Sg) : m_row_G K40 c_m_refuses s = t_m_row K40 c_m_refuses [some (.inr (.inr (some (10, 0)))), none, none, none, none] [] s := rfl
noncomputable def m_turned_G (s : Sg) : Option (Sg × Int32) :=
  some (s, (rI s 10 0 6))
noncomputable def m_turned : Sg → Option (Sg × Int32) := m_turned_G
noncomputable def t_m_turned : Bk (Sg × Int32) := (s_ldA 0 (s_getI 10 6 (s_iret retI)))
set_option maxRecDepth 20000 in
theorem e_m_turned (s : Sg) : m_turned_G s = t_m_turned [some (.inr (.inr (some (10, 0))))] [] s := rfl
noncomputable def m_feed_b55_G (K55 : Sg → Int32 → Option (Sg × Int32)) (s : Sg) (l6 : Int32) : Option (Sg × Int32) :=
  gif ((l6 : Int32) < 20) (
    gd (¬ 4 = (0 : Int32)) (
    gd (inb (l6 / 4) 5) (
    gd (¬ 4 = (0 : Int32)) (
    gd (inb ((rI s 10 0 13) + l6) 400) (
    let s1 := wI s 48 0 (ix ((rI s 10 0 13) + l6)) (vp_nar .byte (Int8.toInt32 (Int32.toInt8 ((rI s 49 0 (ix (l6 / 4))) >>> ((24 - (8 * (g_rem l6 4))) &&& 31)))))
    K55 s1 (l6 + 1))))))
  (
    let s2 := wI s 10 0 13 ((rI s 10 0 13) + 20)
    some (s2, (rI s2 10 0 13)))
noncomputable def m_feed_b55 : Nat → Sg → Int32 → Option (Sg × Int32)
  | 0 => fun _ _ => none
  | n + 1 => m_feed_b55_G (m_feed_b55 n)
noncomputable def t_m_feed_b55 (K55 : Sg → Int32 → Option (Sg × Int32)) : Bk (Sg × Int32) := (s_ldI 6 (s_ic 20 (s_clt
  (s_ldA 0 (s_getRc 10 11 48 0 (s_ldA 0 (s_getI 10 13 (s_ldI 6 (s_bin (fun x y => x + y) (s_ldA 0 (s_getRc 10 12 49 0 (s_ldI 6 (s_ic 4 (s_div (fun x y => x / y) (s_iald 49 5 (s_ic 24 (s_ic 8 (s_ldI 6 (s_ic 4 (s_div g_rem (s_bin (fun x y => x * y) (s_bin (fun x y => x - y) (s_bin (fun x y => x >>> (y &&& 31)) (s_i2b (s_bast .byte 48 400 (s_inc 6 1 (s_goto (p_C 0 10 0 <| p_I 6 fun a6 => p_E fun s => K55 s a6)))))))))))))))))))))))))
  (s_ldA 0 (s_dup (s_getI 10 13 (s_ic 20 (s_bin (fun x y => x + y) (s_putI 10 13 (s_ldA 0 (s_getI 10 13 (s_iret retI))))))))))))
set_option maxRecDepth 20000 in
theorem e_m_feed_b55 (K55 : Sg → Int32 → Option (Sg × Int32)) (s : Sg) (l6 : Int32) : m_feed_b55_G K55 s l6 = t_m_feed_b55 K55 [some (.inr (.inr (some (10, 0)))), none, none, none, none, none, some (.inl l6)] [] s := rfl
noncomputable def m_feed_G (K55 : Sg → Int32 → Option (Sg × Int32)) (s : Sg) (l1 : Int32) (l2 : Int32) (l3 : Int32) (l4 : Int32) (l5 : Int32) : Option (Sg × Int32) :=
  gif ((400 : Int32) < ((rI s 10 0 13) + 20)) (
    some (s, (-1)))
  (
    gd (inb 0 5) (
    let s1 := wI s 49 0 (ix 0) l1
    gd (inb 1 5) (
    let s2 := wI s1 49 0 (ix 1) l2
    gd (inb 2 5) (
    let s3 := wI s2 49 0 (ix 2) l3
    gd (inb 3 5) (
    let s4 := wI s3 49 0 (ix 3) l4
    gd (inb 4 5) (
    let s5 := wI s4 49 0 (ix 4) l5
    K55 s5 0))))))
noncomputable def m_feed : Sg → Int32 → Int32 → Int32 → Int32 → Int32 → Option (Sg × Int32) := m_feed_G (m_feed_b55 FU)
noncomputable def t_m_feed (K55 : Sg → Int32 → Option (Sg × Int32)) : Bk (Sg × Int32) := (s_ldA 0 (s_getI 10 13 (s_ic 20 (s_bin (fun x y => x + y) (s_ic 400 (s_cgt
  (s_ic (-1) (s_iret retI))
  (s_ldA 0 (s_getRc 10 12 49 0 (s_ic 0 (s_ldI 1 (s_iast 49 5 (s_ldA 0 (s_getRc 10 12 49 0 (s_ic 1 (s_ldI 2 (s_iast 49 5 (s_ldA 0 (s_getRc 10 12 49 0 (s_ic 2 (s_ldI 3 (s_iast 49 5 (s_ldA 0 (s_getRc 10 12 49 0 (s_ic 3 (s_ldI 4 (s_iast 49 5 (s_ldA 0 (s_getRc 10 12 49 0 (s_ic 4 (s_ldI 5 (s_iast 49 5 (s_ic 0 (s_stI 6 (p_C 0 10 0 <| p_I 6 fun a6 => p_E fun s => K55 s a6))))))))))))))))))))))))))))))))))
set_option maxRecDepth 20000 in
theorem e_m_feed (K55 : Sg → Int32 → Option (Sg × Int32)) (s : Sg) (l1 : Int32) (l2 : Int32) (l3 : Int32) (l4 : Int32) (l5 : Int32) : m_feed_G K55 s l1 l2 l3 l4 l5 = t_m_feed K55 [some (.inr (.inr (some (10, 0)))), some (.inl l1), some (.inl l2), some (.inl l3), some (.inl l4), some (.inl l5), none] [] s := rfl
noncomputable def m_end_G (c_m_lies : Sg → Int32 → Int32 → Int32 → Option (Sg × Int32)) (s : Sg) (l1 : Int32) : Option (Sg × Int32) :=
  (c_m_lies s l1 0 (rI s 10 0 13)).bind fun q1 => (
  gif ((q1.2 : Int32) = 0) (
    some (q1.1, (-1)))
  (
    let s2 := wI q1.1 10 0 13 l1
    some (s2, l1)))
noncomputable def m_end : Sg → Int32 → Option (Sg × Int32) := m_end_G m_lies
noncomputable def t_m_end (c_m_lies : Sg → Int32 → Int32 → Int32 → Option (Sg × Int32)) : Bk (Sg × Int32) := (s_ldI 1 (s_ic 0 (s_ldA 0 (s_getI 10 13 (s_call (FW_m_lies c_m_lies) 3 (s_eq0
  (s_ic (-1) (s_iret retI))
  (s_ldA 0 (s_ldI 1 (s_putI 10 13 (s_ldI 1 (s_iret retI)))))))))))
set_option maxRecDepth 20000 in
theorem e_m_end (c_m_lies : Sg → Int32 → Int32 → Int32 → Option (Sg × Int32)) (s : Sg) (l1 : Int32) : m_end_G c_m_lies s l1 = t_m_end c_m_lies [some (.inr (.inr (some (10, 0)))), some (.inl l1)] [] s := rfl
noncomputable def m_isSmall_G (s : Sg) (l0 : Int32) : Option (Sg × Int32) :=
  gif ((l0 : Int32) < 97) (
    gd (isB 0) (some (s, 0)))
  (
    gif ((122 : Int32) < l0) (
      gd (isB 0) (some (s, 0)))
    (
      gd (isB 1) (some (s, 1))))
noncomputable def m_isSmall : Sg → Int32 → Option (Sg × Int32) := m_isSmall_G
noncomputable def t_m_isSmall : Bk (Sg × Int32) := (s_ldI 0 (s_ic 97 (s_clt
  (s_ic 0 (s_zret retI))
  (s_ldI 0 (s_ic 122 (s_cgt
    (s_ic 0 (s_zret retI))
    (s_ic 1 (s_goto (s_zret retI)))))))))
set_option maxRecDepth 20000 in
theorem e_m_isSmall (s : Sg) (l0 : Int32) : m_isSmall_G s l0 = t_m_isSmall [some (.inl l0)] [] s := rfl
noncomputable def m_isDigit_G (s : Sg) (l0 : Int32) : Option (Sg × Int32) :=
  gif ((l0 : Int32) < 48) (
    gd (isB 0) (some (s, 0)))
  (
    gif ((57 : Int32) < l0) (
      gd (isB 0) (some (s, 0)))
    (
      gd (isB 1) (some (s, 1))))
noncomputable def m_isDigit : Sg → Int32 → Option (Sg × Int32) := m_isDigit_G
noncomputable def t_m_isDigit : Bk (Sg × Int32) := (s_ldI 0 (s_ic 48 (s_clt
  (s_ic 0 (s_zret retI))
  (s_ldI 0 (s_ic 57 (s_cgt
    (s_ic 0 (s_zret retI))
    (s_ic 1 (s_goto (s_zret retI)))))))))
set_option maxRecDepth 20000 in
theorem e_m_isDigit (s : Sg) (l0 : Int32) : m_isDigit_G s l0 = t_m_isDigit [some (.inl l0)] [] s := rfl
noncomputable def m_wordOf_b57_G (K5 : Sg → Int32 → Int32 → Int32 → Int32 → Option (Sg × Int32)) (K57 : Sg → Int32 → Int32 → Int32 → Int32 → Int32 → Int32 → Int32 → Option (Sg × Int32)) (s : Sg) (l1 : Int32) (l2 : Int32) (l3 : Int32) (l4 : Int32) (l5 : Int32) (l6 : Int32) (l7 : Int32) : Option (Sg × Int32) :=
  gif ((l7 : Int32) < l5) (
    gif ((l6 : Int32) = 0) (
      gif ((l6 : Int32) = 0) (
        K5 s l1 l2 (l3 + 1) (l4 + (l5 + 1)))
      (
        some (s, l3)))
    (
      gd (inb (l4 + l7) 138) (
      gd (inb (l1 + l7) 400) (
      gif (((rI s 47 0 (ix (l4 + l7))) : Int32) = (rI s 48 0 (ix (l1 + l7)))) (
        K57 s l1 l2 l3 l4 l5 1 (l7 + 1))
      (
        K57 s l1 l2 l3 l4 l5 0 (l7 + 1))))))
  (
    gif ((l6 : Int32) = 0) (
      K5 s l1 l2 (l3 + 1) (l4 + (l5 + 1)))
    (
      some (s, l3)))
noncomputable def m_wordOf_b57 (K5 : Sg → Int32 → Int32 → Int32 → Int32 → Option (Sg × Int32)) : Nat → Sg → Int32 → Int32 → Int32 → Int32 → Int32 → Int32 → Int32 → Option (Sg × Int32)
  | 0 => fun _ _ _ _ _ _ _ _ => none
  | n + 1 => m_wordOf_b57_G K5 (m_wordOf_b57 K5 n)
noncomputable def t_m_wordOf_b57 (K5 : Sg → Int32 → Int32 → Int32 → Int32 → Option (Sg × Int32)) (K57 : Sg → Int32 → Int32 → Int32 → Int32 → Int32 → Int32 → Int32 → Option (Sg × Int32)) : Bk (Sg × Int32) := (s_ldI 7 (s_ldI 5 (s_clt
  (s_ldI 6 (s_eq0
    (s_ldI 6 (s_eq0
      (s_ldI 4 (s_ldI 5 (s_ic 1 (s_bin (fun x y => x + y) (s_bin (fun x y => x + y) (s_stI 4 (s_inc 3 1 (s_goto (p_C 0 10 0 <| p_I 1 fun a1 => p_I 2 fun a2 => p_I 3 fun a3 => p_I 4 fun a4 => p_E fun s => K5 s a1 a2 a3 a4)))))))))
      (s_ldI 3 (s_iret retI))))
    (s_ldA 0 (s_getRc 10 7 47 0 (s_ldI 4 (s_ldI 7 (s_bin (fun x y => x + y) (s_bald 47 138 (s_ldA 0 (s_getRc 10 11 48 0 (s_ldI 1 (s_ldI 7 (s_bin (fun x y => x + y) (s_bald 48 400 (s_ceq
      (s_ic 1 (s_goto (s_stI 6 (s_inc 7 1 (s_goto (p_C 0 10 0 <| p_I 1 fun a1 => p_I 2 fun a2 => p_I 3 fun a3 => p_I 4 fun a4 => p_I 5 fun a5 => p_I 6 fun a6 => p_I 7 fun a7 => p_E fun s => K57 s a1 a2 a3 a4 a5 a6 a7))))))
      (s_ic 0 (s_stI 6 (s_inc 7 1 (s_goto (p_C 0 10 0 <| p_I 1 fun a1 => p_I 2 fun a2 => p_I 3 fun a3 => p_I 4 fun a4 => p_I 5 fun a5 => p_I 6 fun a6 => p_I 7 fun a7 => p_E fun s => K57 s a1 a2 a3 a4 a5 a6 a7))))))))))))))))))))
  (s_ldI 6 (s_eq0
    (s_ldI 4 (s_ldI 5 (s_ic 1 (s_bin (fun x y => x + y) (s_bin (fun x y => x + y) (s_stI 4 (s_inc 3 1 (s_goto (p_C 0 10 0 <| p_I 1 fun a1 => p_I 2 fun a2 => p_I 3 fun a3 => p_I 4 fun a4 => p_E fun s => K5 s a1 a2 a3 a4)))))))))
    (s_ldI 3 (s_iret retI)))))))
set_option maxRecDepth 20000 in
theorem e_m_wordOf_b57 (K5 : Sg → Int32 → Int32 → Int32 → Int32 → Option (Sg × Int32)) (K57 : Sg → Int32 → Int32 → Int32 → Int32 → Int32 → Int32 → Int32 → Option (Sg × Int32)) (s : Sg) (l1 : Int32) (l2 : Int32) (l3 : Int32) (l4 : Int32) (l5 : Int32) (l6 : Int32) (l7 : Int32) : m_wordOf_b57_G K5 K57 s l1 l2 l3 l4 l5 l6 l7 = t_m_wordOf_b57 K5 K57 [some (.inr (.inr (some (10, 0)))), some (.inl l1), some (.inl l2), some (.inl l3), some (.inl l4), some (.inl l5), some (.inl l6), some (.inl l7)] [] s := rfl
noncomputable def m_wordOf_b18_G (K18 : Sg → Int32 → Int32 → Int32 → Int32 → Int32 → Option (Sg × Int32)) (K57 : Sg → Int32 → Int32 → Int32 → Int32 → Int32 → Int32 → Int32 → Option (Sg × Int32)) (s : Sg) (l1 : Int32) (l2 : Int32) (l3 : Int32) (l4 : Int32) (l5 : Int32) : Option (Sg × Int32) :=
  gd (inb (l4 + l5) 138) (
  gif (((rI s 47 0 (ix (l4 + l5))) : Int32) = 32) (
    gif ((l5 : Int32) = (l2 - l1)) (
      K57 s l1 l2 l3 l4 l5 1 0)
    (
      K57 s l1 l2 l3 l4 l5 0 0))
  (
    K18 s l1 l2 l3 l4 (l5 + 1)))
noncomputable def m_wordOf_b18 (K5 : Sg → Int32 → Int32 → Int32 → Int32 → Option (Sg × Int32)) : Nat → Sg → Int32 → Int32 → Int32 → Int32 → Int32 → Option (Sg × Int32)
  | 0 => fun _ _ _ _ _ _ => none
  | n + 1 => m_wordOf_b18_G (m_wordOf_b18 K5 n) (m_wordOf_b57 K5 FU)
noncomputable def t_m_wordOf_b18 (K18 : Sg → Int32 → Int32 → Int32 → Int32 → Int32 → Option (Sg × Int32)) (K57 : Sg → Int32 → Int32 → Int32 → Int32 → Int32 → Int32 → Int32 → Option (Sg × Int32)) : Bk (Sg × Int32) := (s_ldA 0 (s_getRc 10 7 47 0 (s_ldI 4 (s_ldI 5 (s_bin (fun x y => x + y) (s_bald 47 138 (s_ic 32 (s_ceq
  (s_ldI 5 (s_ldI 2 (s_ldI 1 (s_bin (fun x y => x - y) (s_ceq
    (s_ic 1 (s_goto (s_stI 6 (s_ic 0 (s_stI 7 (p_C 0 10 0 <| p_I 1 fun a1 => p_I 2 fun a2 => p_I 3 fun a3 => p_I 4 fun a4 => p_I 5 fun a5 => p_I 6 fun a6 => p_I 7 fun a7 => p_E fun s => K57 s a1 a2 a3 a4 a5 a6 a7))))))
    (s_ic 0 (s_stI 6 (s_ic 0 (s_stI 7 (p_C 0 10 0 <| p_I 1 fun a1 => p_I 2 fun a2 => p_I 3 fun a3 => p_I 4 fun a4 => p_I 5 fun a5 => p_I 6 fun a6 => p_I 7 fun a7 => p_E fun s => K57 s a1 a2 a3 a4 a5 a6 a7))))))))))
  (s_inc 5 1 (s_goto (p_C 0 10 0 <| p_I 1 fun a1 => p_I 2 fun a2 => p_I 3 fun a3 => p_I 4 fun a4 => p_I 5 fun a5 => p_E fun s => K18 s a1 a2 a3 a4 a5)))))))))))
set_option maxRecDepth 20000 in
theorem e_m_wordOf_b18 (K18 : Sg → Int32 → Int32 → Int32 → Int32 → Int32 → Option (Sg × Int32)) (K57 : Sg → Int32 → Int32 → Int32 → Int32 → Int32 → Int32 → Int32 → Option (Sg × Int32)) (s : Sg) (l1 : Int32) (l2 : Int32) (l3 : Int32) (l4 : Int32) (l5 : Int32) : m_wordOf_b18_G K18 K57 s l1 l2 l3 l4 l5 = t_m_wordOf_b18 K18 K57 [some (.inr (.inr (some (10, 0)))), some (.inl l1), some (.inl l2), some (.inl l3), some (.inl l4), some (.inl l5), none, none] [] s := rfl
noncomputable def m_wordOf_b5_G (K18 : Sg → Int32 → Int32 → Int32 → Int32 → Int32 → Option (Sg × Int32)) (s : Sg) (l1 : Int32) (l2 : Int32) (l3 : Int32) (l4 : Int32) : Option (Sg × Int32) :=
  gif ((l4 : Int32) < (Int32.ofNat 138)) (
    K18 s l1 l2 l3 l4 0)
  (
    some (s, 0))
noncomputable def m_wordOf_b5 : Nat → Sg → Int32 → Int32 → Int32 → Int32 → Option (Sg × Int32)
  | 0 => fun _ _ _ _ _ => none
  | n + 1 => m_wordOf_b5_G (m_wordOf_b18 (m_wordOf_b5 n) FU)
noncomputable def t_m_wordOf_b5 (K18 : Sg → Int32 → Int32 → Int32 → Int32 → Int32 → Option (Sg × Int32)) : Bk (Sg × Int32) := (s_ldI 4 (s_ldA 0 (s_getRc 10 7 47 0 (s_alen 47 138 (s_clt
  (s_ic 0 (s_stI 5 (p_C 0 10 0 <| p_I 1 fun a1 => p_I 2 fun a2 => p_I 3 fun a3 => p_I 4 fun a4 => p_I 5 fun a5 => p_E fun s => K18 s a1 a2 a3 a4 a5)))
  (s_ic 0 (s_iret retI)))))))
set_option maxRecDepth 20000 in
theorem e_m_wordOf_b5 (K18 : Sg → Int32 → Int32 → Int32 → Int32 → Int32 → Option (Sg × Int32)) (s : Sg) (l1 : Int32) (l2 : Int32) (l3 : Int32) (l4 : Int32) : m_wordOf_b5_G K18 s l1 l2 l3 l4 = t_m_wordOf_b5 K18 [some (.inr (.inr (some (10, 0)))), some (.inl l1), some (.inl l2), some (.inl l3), some (.inl l4), none, none, none] [] s := rfl
noncomputable def m_wordOf_G (K5 : Sg → Int32 → Int32 → Int32 → Int32 → Option (Sg × Int32)) (s : Sg) (l1 : Int32) (l2 : Int32) : Option (Sg × Int32) :=
  K5 s l1 l2 1 0
noncomputable def m_wordOf : Sg → Int32 → Int32 → Option (Sg × Int32) := m_wordOf_G (m_wordOf_b5 FU)
noncomputable def t_m_wordOf (K5 : Sg → Int32 → Int32 → Int32 → Int32 → Option (Sg × Int32)) : Bk (Sg × Int32) := (s_ic 1 (s_stI 3 (s_ic 0 (s_stI 4 (p_C 0 10 0 <| p_I 1 fun a1 => p_I 2 fun a2 => p_I 3 fun a3 => p_I 4 fun a4 => p_E fun s => K5 s a1 a2 a3 a4)))))
set_option maxRecDepth 20000 in
theorem e_m_wordOf (K5 : Sg → Int32 → Int32 → Int32 → Int32 → Option (Sg × Int32)) (s : Sg) (l1 : Int32) (l2 : Int32) : m_wordOf_G K5 s l1 l2 = t_m_wordOf K5 [some (.inr (.inr (some (10, 0)))), some (.inl l1), some (.inl l2), none, none, none, none, none] [] s := rfl
