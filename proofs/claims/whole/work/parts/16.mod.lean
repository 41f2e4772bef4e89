noncomputable def m_riverTo_b18_G (K18 : Sg → Int32 → Int32 → Int32 → Int32 → Option (Sg × Int32)) (c_m_lies : Sg → Int32 → Int32 → Int32 → Option (Sg × Int32)) (c_m_greater : Sg → Int32 → Int32 → Option (Sg × Int32)) (s : Sg) (l1 : Int32) (l3 : Int32) (l4 : Int32) (l5 : Int32) : Option (Sg × Int32) :=
  gd (inb (1 - l1) 2) (
  gif ((l5 : Int32) < (rI s 69 0 (ix (1 - l1)))) (
    gd (inb ((13 * (1 - l1)) + l5) 26) (
    (c_m_lies s ((rI s 67 0 (ix ((13 * (1 - l1)) + l5))) - l3) (-1) 1).bind fun q1 => (
    gif ((q1.2 : Int32) = 0) (
      K18 q1.1 l1 l3 l4 (l5 + 1))
    (
      gd (inb ((13 * (1 - l1)) + l5) 26) (
      (c_m_greater q1.1 l4 (rI q1.1 68 0 (ix ((13 * (1 - l1)) + l5)))).bind fun q2 => (
      K18 q2.1 l1 l3 q2.2 (l5 + 1)))))))
  (
    some (s, (l4 + 1))))
noncomputable def m_riverTo_b18 : Nat → Sg → Int32 → Int32 → Int32 → Int32 → Option (Sg × Int32)
  | 0 => fun _ _ _ _ _ => none
  | n + 1 => m_riverTo_b18_G (m_riverTo_b18 n) m_lies m_greater
noncomputable def t_m_riverTo_b18 (K18 : Sg → Int32 → Int32 → Int32 → Int32 → Option (Sg × Int32)) (c_m_lies : Sg → Int32 → Int32 → Int32 → Option (Sg × Int32)) (c_m_greater : Sg → Int32 → Int32 → Option (Sg × Int32)) : Bk (Sg × Int32) := (s_ldI 5 (s_ldA 0 (s_getRc 10 55 69 0 (s_ic 1 (s_ldI 1 (s_bin (fun x y => x - y) (s_iald 69 2 (s_clt
  (s_ic 13 (s_ic 1 (s_ldI 1 (s_bin (fun x y => x - y) (s_bin (fun x y => x * y) (s_ldI 5 (s_bin (fun x y => x + y) (s_stI 6 (s_ldA 0 (s_getRc 10 53 67 0 (s_ldI 6 (s_iald 67 26 (s_ldI 3 (s_bin (fun x y => x - y) (s_ic (-1) (s_ic 1 (s_call (FW_m_lies c_m_lies) 3 (s_eq0
    (s_inc 5 1 (s_goto (p_C 0 10 0 <| p_I 1 fun a1 => p_I 3 fun a3 => p_I 4 fun a4 => p_I 5 fun a5 => p_E fun s => K18 s a1 a3 a4 a5)))
    (s_ldI 4 (s_ldA 0 (s_getRc 10 54 68 0 (s_ldI 6 (s_iald 68 26 (s_call (FW_m_greater c_m_greater) 2 (s_stI 4 (s_inc 5 1 (s_goto (p_C 0 10 0 <| p_I 1 fun a1 => p_I 3 fun a3 => p_I 4 fun a4 => p_I 5 fun a5 => p_E fun s => K18 s a1 a3 a4 a5))))))))))))))))))))))))))))
  (s_ldI 4 (s_ic 1 (s_bin (fun x y => x + y) (s_iret retI))))))))))))
set_option maxRecDepth 20000 in
theorem e_m_riverTo_b18 (K18 : Sg → Int32 → Int32 → Int32 → Int32 → Option (Sg × Int32)) (c_m_lies : Sg → Int32 → Int32 → Int32 → Option (Sg × Int32)) (c_m_greater : Sg → Int32 → Int32 → Option (Sg × Int32)) (s : Sg) (l1 : Int32) (l3 : Int32) (l4 : Int32) (l5 : Int32) : m_riverTo_b18_G K18 c_m_lies c_m_greater s l1 l3 l4 l5 = t_m_riverTo_b18 K18 c_m_lies c_m_greater [some (.inr (.inr (some (10, 0)))), some (.inl l1), none, some (.inl l3), some (.inl l4), some (.inl l5), none] [] s := rfl
noncomputable def m_riverTo_G (K18 : Sg → Int32 → Int32 → Int32 → Int32 → Option (Sg × Int32)) (s : Sg) (l1 : Int32) (l2 : Int32) : Option (Sg × Int32) :=
  gd (inb ((13 * l1) + l2) 26) (
  K18 s l1 (rI s 67 0 (ix ((13 * l1) + l2))) 0 0)
noncomputable def m_riverTo : Sg → Int32 → Int32 → Option (Sg × Int32) := m_riverTo_G (m_riverTo_b18 FU)
noncomputable def t_m_riverTo (K18 : Sg → Int32 → Int32 → Int32 → Int32 → Option (Sg × Int32)) : Bk (Sg × Int32) := (s_ldA 0 (s_getRc 10 53 67 0 (s_ic 13 (s_ldI 1 (s_bin (fun x y => x * y) (s_ldI 2 (s_bin (fun x y => x + y) (s_iald 67 26 (s_stI 3 (s_ic 0 (s_stI 4 (s_ic 0 (s_stI 5 (p_C 0 10 0 <| p_I 1 fun a1 => p_I 3 fun a3 => p_I 4 fun a4 => p_I 5 fun a5 => p_E fun s => K18 s a1 a3 a4 a5))))))))))))))
set_option maxRecDepth 20000 in
theorem e_m_riverTo (K18 : Sg → Int32 → Int32 → Int32 → Int32 → Option (Sg × Int32)) (s : Sg) (l1 : Int32) (l2 : Int32) : m_riverTo_G K18 s l1 l2 = t_m_riverTo K18 [some (.inr (.inr (some (10, 0)))), some (.inl l1), some (.inl l2), none, none, none, none] [] s := rfl
noncomputable def m_river_b36_G (K15 : Sg → Int32 → Int32 → Option (Sg × Int32)) (K36 : Sg → Int32 → Int32 → Int32 → Int32 → Option (Sg × Int32)) (c_m_riverTo : Sg → Int32 → Int32 → Option (Sg × Int32)) (c_m_greater : Sg → Int32 → Int32 → Option (Sg × Int32)) (s : Sg) (l1 : Int32) (l2 : Int32) (l3 : Int32) (l4 : Int32) : Option (Sg × Int32) :=
  gd (inb l3 2) (
  gif ((l4 : Int32) < (rI s 69 0 (ix l3))) (
    (c_m_riverTo s l3 l4).bind fun q1 => (
    gd (inb ((13 * l3) + l4) 26) (
    let s2 := wI q1.1 68 0 (ix ((13 * l3) + l4)) q1.2
    gd (inb ((13 * l3) + l4) 26) (
    (c_m_greater s2 l1 (rI s2 68 0 (ix ((13 * l3) + l4)))).bind fun q3 => (
    K36 q3.1 q3.2 l2 l3 (l4 + 1))))))
  (
    K15 s l1 (l2 + 1)))
noncomputable def m_river_b36 (K15 : Sg → Int32 → Int32 → Option (Sg × Int32)) : Nat → Sg → Int32 → Int32 → Int32 → Int32 → Option (Sg × Int32)
  | 0 => fun _ _ _ _ _ => none
  | n + 1 => m_river_b36_G K15 (m_river_b36 K15 n) m_riverTo m_greater
noncomputable def t_m_river_b36 (K15 : Sg → Int32 → Int32 → Option (Sg × Int32)) (K36 : Sg → Int32 → Int32 → Int32 → Int32 → Option (Sg × Int32)) (c_m_riverTo : Sg → Int32 → Int32 → Option (Sg × Int32)) (c_m_greater : Sg → Int32 → Int32 → Option (Sg × Int32)) : Bk (Sg × Int32) := (s_ldI 4 (s_ldA 0 (s_getRc 10 55 69 0 (s_ldI 3 (s_iald 69 2 (s_clt
  (s_ldA 0 (s_getRc 10 54 68 0 (s_ic 13 (s_ldI 3 (s_bin (fun x y => x * y) (s_ldI 4 (s_bin (fun x y => x + y) (s_ldA 0 (s_ldI 3 (s_ldI 4 (s_call (FW_m_riverTo c_m_riverTo) 3 (s_iast 68 26 (s_ldI 1 (s_ldA 0 (s_getRc 10 54 68 0 (s_ic 13 (s_ldI 3 (s_bin (fun x y => x * y) (s_ldI 4 (s_bin (fun x y => x + y) (s_iald 68 26 (s_call (FW_m_greater c_m_greater) 2 (s_stI 1 (s_inc 4 1 (s_goto (p_C 0 10 0 <| p_I 1 fun a1 => p_I 2 fun a2 => p_I 3 fun a3 => p_I 4 fun a4 => p_E fun s => K36 s a1 a2 a3 a4))))))))))))))))))))))))))
  (s_inc 2 1 (s_goto (p_C 0 10 0 <| p_I 1 fun a1 => p_I 2 fun a2 => p_E fun s => K15 s a1 a2)))))))))
set_option maxRecDepth 20000 in
theorem e_m_river_b36 (K15 : Sg → Int32 → Int32 → Option (Sg × Int32)) (K36 : Sg → Int32 → Int32 → Int32 → Int32 → Option (Sg × Int32)) (c_m_riverTo : Sg → Int32 → Int32 → Option (Sg × Int32)) (c_m_greater : Sg → Int32 → Int32 → Option (Sg × Int32)) (s : Sg) (l1 : Int32) (l2 : Int32) (l3 : Int32) (l4 : Int32) : m_river_b36_G K15 K36 c_m_riverTo c_m_greater s l1 l2 l3 l4 = t_m_river_b36 K15 K36 c_m_riverTo c_m_greater [some (.inr (.inr (some (10, 0)))), some (.inl l1), some (.inl l2), some (.inl l3), some (.inl l4)] [] s := rfl
noncomputable def m_river_b15_G (K36 : Sg → Int32 → Int32 → Int32 → Int32 → Option (Sg × Int32)) (c_m_laysSpaces : Sg → Int32 → Int32 → Option Sg) (s : Sg) (l1 : Int32) (l2 : Int32) : Option (Sg × Int32) :=
  gif ((l2 : Int32) < (rI s 10 0 43)) (
    gd (¬ 2 = (0 : Int32)) (
    (c_m_laysSpaces s (g_rem l2 2) l2).bind fun s1 => (
    K36 s1 l1 l2 (g_rem l2 2) 0)))
  (
    some (s, l1))
noncomputable def m_river_b15 : Nat → Sg → Int32 → Int32 → Option (Sg × Int32)
  | 0 => fun _ _ _ => none
  | n + 1 => m_river_b15_G (m_river_b36 (m_river_b15 n) FU) m_laysSpaces
noncomputable def t_m_river_b15 (K36 : Sg → Int32 → Int32 → Int32 → Int32 → Option (Sg × Int32)) (c_m_laysSpaces : Sg → Int32 → Int32 → Option Sg) : Bk (Sg × Int32) := (s_ldI 2 (s_ldA 0 (s_getI 10 43 (s_clt
  (s_ldI 2 (s_ic 2 (s_div g_rem (s_stI 3 (s_ldA 0 (s_ldI 3 (s_ldI 2 (s_call (FW_m_laysSpaces c_m_laysSpaces) 3 (s_ic 0 (s_stI 4 (p_C 0 10 0 <| p_I 1 fun a1 => p_I 2 fun a2 => p_I 3 fun a3 => p_I 4 fun a4 => p_E fun s => K36 s a1 a2 a3 a4)))))))))))
  (s_ldI 1 (s_iret retI))))))
set_option maxRecDepth 20000 in
theorem e_m_river_b15 (K36 : Sg → Int32 → Int32 → Int32 → Int32 → Option (Sg × Int32)) (c_m_laysSpaces : Sg → Int32 → Int32 → Option Sg) (s : Sg) (l1 : Int32) (l2 : Int32) : m_river_b15_G K36 c_m_laysSpaces s l1 l2 = t_m_river_b15 K36 c_m_laysSpaces [some (.inr (.inr (some (10, 0)))), some (.inl l1), some (.inl l2), none, none] [] s := rfl
noncomputable def m_river_G (K15 : Sg → Int32 → Int32 → Option (Sg × Int32)) (c_m_laysSetting : Sg → Option Sg) (s : Sg) : Option (Sg × Int32) :=
  (c_m_laysSetting s).bind fun s1 => (
  gd (inb 1 2) (
  let s2 := wI s1 69 0 (ix 1) 0
  K15 s2 0 0))
noncomputable def m_river : Sg → Option (Sg × Int32) := m_river_G (m_river_b15 FU) m_laysSetting
noncomputable def t_m_river (K15 : Sg → Int32 → Int32 → Option (Sg × Int32)) (c_m_laysSetting : Sg → Option Sg) : Bk (Sg × Int32) := (s_ldA 0 (s_call (FW_m_laysSetting c_m_laysSetting) 1 (s_ldA 0 (s_getRc 10 55 69 0 (s_ic 1 (s_ic 0 (s_iast 69 2 (s_ic 0 (s_stI 1 (s_ic 0 (s_stI 2 (p_C 0 10 0 <| p_I 1 fun a1 => p_I 2 fun a2 => p_E fun s => K15 s a1 a2))))))))))))
set_option maxRecDepth 20000 in
theorem e_m_river (K15 : Sg → Int32 → Int32 → Option (Sg × Int32)) (c_m_laysSetting : Sg → Option Sg) (s : Sg) : m_river_G K15 c_m_laysSetting s = t_m_river K15 c_m_laysSetting [some (.inr (.inr (some (10, 0)))), none, none, none, none] [] s := rfl
noncomputable def m_seen_G (c_m_lies : Sg → Int32 → Int32 → Int32 → Option (Sg × Int32)) (c_m_refuses : Sg → Int32 → Option (Sg × Int32)) (c_m_good : Sg → Int32 → Option (Sg × Int32)) (s : Sg) (l1 : Int32) (l2 : Int32) : Option (Sg × Int32) :=
  (c_m_lies s l1 0 3).bind fun q1 => (
  gif ((q1.2 : Int32) = 0) (
    (c_m_refuses q1.1 (-1)).bind fun q2 => (
    some (q2.1, q2.2)))
  (
    (c_m_lies q1.1 l2 0 999).bind fun q3 => (
    gif ((q3.2 : Int32) = 0) (
      (c_m_refuses q3.1 (-1)).bind fun q4 => (
      some (q4.1, q4.2)))
    (
      gd (inb 55 5665) (
      gd (inb 55 5665) (
      gif (((rI q3.1 43 0 (ix 55)) : Int32) = 6) (
        (c_m_refuses q3.1 (-5)).bind fun q5 => (
        some (q5.1, q5.2)))
      (
        gd (inb (39 + (2 * (rI q3.1 43 0 (ix 55)))) 5665) (
        let s6 := wI q3.1 43 0 (ix (39 + (2 * (rI q3.1 43 0 (ix 55))))) l1
        gd (inb ((39 + (2 * (rI q3.1 43 0 (ix 55)))) + 1) 5665) (
        let s7 := wI s6 43 0 (ix ((39 + (2 * (rI q3.1 43 0 (ix 55)))) + 1)) l2
        gd (inb 55 5665) (
        gd (inb 55 5665) (
        let s8 := wI s7 43 0 (ix 55) ((rI s7 43 0 (ix 55)) + 1)
        gd (inb 55 5665) (
        (c_m_good s8 (rI s8 43 0 (ix 55))).bind fun q9 => (
        some (q9.1, q9.2))))))))))))))
noncomputable def m_seen : Sg → Int32 → Int32 → Option (Sg × Int32) := m_seen_G m_lies m_refuses m_good
noncomputable def t_m_seen (c_m_lies : Sg → Int32 → Int32 → Int32 → Option (Sg × Int32)) (c_m_refuses : Sg → Int32 → Option (Sg × Int32)) (c_m_good : Sg → Int32 → Option (Sg × Int32)) : Bk (Sg × Int32) := (s_ldI 1 (s_ic 0 (s_ic 3 (s_call (FW_m_lies c_m_lies) 3 (s_eq0
  (s_ldA 0 (s_ic (-1) (s_call (FW_m_refuses c_m_refuses) 2 (s_iret retI))))
  (s_ldI 2 (s_ic 0 (s_ic 999 (s_call (FW_m_lies c_m_lies) 3 (s_eq0
    (s_ldA 0 (s_ic (-1) (s_call (FW_m_refuses c_m_refuses) 2 (s_iret retI))))
    (s_ic 39 (s_ic 2 (s_ldA 0 (s_getRc 10 2 43 0 (s_ic 55 (s_iald 43 5665 (s_bin (fun x y => x * y) (s_bin (fun x y => x + y) (s_stI 3 (s_ldA 0 (s_getRc 10 2 43 0 (s_ic 55 (s_iald 43 5665 (s_ic 6 (s_ceq
      (s_ldA 0 (s_ic (-5) (s_call (FW_m_refuses c_m_refuses) 2 (s_iret retI))))
      (s_ldA 0 (s_getRc 10 2 43 0 (s_ldI 3 (s_ldI 1 (s_iast 43 5665 (s_ldA 0 (s_getRc 10 2 43 0 (s_ldI 3 (s_ic 1 (s_bin (fun x y => x + y) (s_ldI 2 (s_iast 43 5665 (s_ldA 0 (s_getRc 10 2 43 0 (s_ic 55 (s_dup2 (s_iald 43 5665 (s_ic 1 (s_bin (fun x y => x + y) (s_iast 43 5665 (s_ldA 0 (s_ldA 0 (s_getRc 10 2 43 0 (s_ic 55 (s_iald 43 5665 (s_call (FW_m_good c_m_good) 2 (s_iret retI))))))))))))))))))))))))))))))))))))))))))))))))))))
set_option maxRecDepth 20000 in
theorem e_m_seen (c_m_lies : Sg → Int32 → Int32 → Int32 → Option (Sg × Int32)) (c_m_refuses : Sg → Int32 → Option (Sg × Int32)) (c_m_good : Sg → Int32 → Option (Sg × Int32)) (s : Sg) (l1 : Int32) (l2 : Int32) : m_seen_G c_m_lies c_m_refuses c_m_good s l1 l2 = t_m_seen c_m_lies c_m_refuses c_m_good [some (.inr (.inr (some (10, 0)))), some (.inl l1), some (.inl l2), none] [] s := rfl
noncomputable def m_forget_G (s : Sg) : Option (Sg × Int32) :=
  gd (inb 55 5665) (
  gd (inb 55 5665) (
  let s1 := wI s 43 0 (ix 55) 0
  some (s1, (rI s 43 0 (ix 55)))))
noncomputable def m_forget : Sg → Option (Sg × Int32) := m_forget_G
noncomputable def t_m_forget : Bk (Sg × Int32) := (s_ldA 0 (s_getRc 10 2 43 0 (s_ic 55 (s_iald 43 5665 (s_stI 1 (s_ldA 0 (s_getRc 10 2 43 0 (s_ic 55 (s_ic 0 (s_iast 43 5665 (s_ldI 1 (s_iret retI))))))))))))
set_option maxRecDepth 20000 in
theorem e_m_forget (s : Sg) : m_forget_G s = t_m_forget [some (.inr (.inr (some (10, 0)))), none] [] s := rfl
noncomputable def m_laysFacts_b6_G (K6 : Sg → Int32 → Option Sg) (c_m_takesSet : Sg → Int32 → Option Sg) (c_m_costsNow : Sg → Option (Sg × Int32)) (c_m_paysNow : Sg → Option (Sg × Int32)) (s : Sg) (l1 : Int32) : Option Sg :=
  gif ((l1 : Int32) < (rI s 10 0 43)) (
    (c_m_takesSet s l1).bind fun s1 => (
    gd (inb (4 * l1) 96) (
    let s2 := wI s1 70 0 (ix (4 * l1)) (rI s1 10 0 38)
    (c_m_costsNow s2).bind fun q3 => (
    gd (inb ((4 * l1) + 1) 96) (
    let s4 := wI q3.1 70 0 (ix ((4 * l1) + 1)) q3.2
    (c_m_paysNow s4).bind fun q5 => (
    gd (inb ((4 * l1) + 2) 96) (
    let s6 := wI q5.1 70 0 (ix ((4 * l1) + 2)) q5.2
    gd (inb ((4 * l1) + 3) 96) (
    let s7 := wI s6 70 0 (ix ((4 * l1) + 3)) (rI s6 10 0 37)
    K6 s7 (l1 + 1)))))))))
  (
    some s)
noncomputable def m_laysFacts_b6 : Nat → Sg → Int32 → Option Sg
  | 0 => fun _ _ => none
  | n + 1 => m_laysFacts_b6_G (m_laysFacts_b6 n) m_takesSet m_costsNow m_paysNow
noncomputable def t_m_laysFacts_b6 (K6 : Sg → Int32 → Option Sg) (c_m_takesSet : Sg → Int32 → Option Sg) (c_m_costsNow : Sg → Option (Sg × Int32)) (c_m_paysNow : Sg → Option (Sg × Int32)) : Bk Sg := (s_ldI 1 (s_ldA 0 (s_getI 10 43 (s_clt
  (s_ldA 0 (s_ldI 1 (s_call (FW_m_takesSet c_m_takesSet) 2 (s_ldA 0 (s_getRc 10 56 70 0 (s_ic 4 (s_ldI 1 (s_bin (fun x y => x * y) (s_ldA 0 (s_getI 10 38 (s_iast 70 96 (s_ldA 0 (s_getRc 10 56 70 0 (s_ic 4 (s_ldI 1 (s_bin (fun x y => x * y) (s_ic 1 (s_bin (fun x y => x + y) (s_ldA 0 (s_call (FW_m_costsNow c_m_costsNow) 1 (s_iast 70 96 (s_ldA 0 (s_getRc 10 56 70 0 (s_ic 4 (s_ldI 1 (s_bin (fun x y => x * y) (s_ic 2 (s_bin (fun x y => x + y) (s_ldA 0 (s_call (FW_m_paysNow c_m_paysNow) 1 (s_iast 70 96 (s_ldA 0 (s_getRc 10 56 70 0 (s_ic 4 (s_ldI 1 (s_bin (fun x y => x * y) (s_ic 3 (s_bin (fun x y => x + y) (s_ldA 0 (s_getI 10 37 (s_iast 70 96 (s_inc 1 1 (s_goto (p_C 0 10 0 <| p_I 1 fun a1 => p_E fun s => K6 s a1))))))))))))))))))))))))))))))))))))))))))))
  (s_vret retV)))))
set_option maxRecDepth 20000 in
theorem e_m_laysFacts_b6 (K6 : Sg → Int32 → Option Sg) (c_m_takesSet : Sg → Int32 → Option Sg) (c_m_costsNow : Sg → Option (Sg × Int32)) (c_m_paysNow : Sg → Option (Sg × Int32)) (s : Sg) (l1 : Int32) : m_laysFacts_b6_G K6 c_m_takesSet c_m_costsNow c_m_paysNow s l1 = t_m_laysFacts_b6 K6 c_m_takesSet c_m_costsNow c_m_paysNow [some (.inr (.inr (some (10, 0)))), some (.inl l1)] [] s := rfl
noncomputable def m_laysFacts_G (K6 : Sg → Int32 → Option Sg) (c_m_laysSetting : Sg → Option Sg) (s : Sg) : Option Sg :=
  (c_m_laysSetting s).bind fun s1 => (
  K6 s1 0)
noncomputable def m_laysFacts : Sg → Option Sg := m_laysFacts_G (m_laysFacts_b6 FU) m_laysSetting
noncomputable def t_m_laysFacts (K6 : Sg → Int32 → Option Sg) (c_m_laysSetting : Sg → Option Sg) : Bk Sg := (s_ldA 0 (s_call (FW_m_laysSetting c_m_laysSetting) 1 (s_ic 0 (s_stI 1 (p_C 0 10 0 <| p_I 1 fun a1 => p_E fun s => K6 s a1)))))
set_option maxRecDepth 20000 in
theorem e_m_laysFacts (K6 : Sg → Int32 → Option Sg) (c_m_laysSetting : Sg → Option Sg) (s : Sg) : m_laysFacts_G K6 c_m_laysSetting s = t_m_laysFacts K6 c_m_laysSetting [some (.inr (.inr (some (10, 0)))), none] [] s := rfl
noncomputable def m_isSo_b4_G (K4 : Sg → Int32 → Int32 → Int32 → Option (Sg × Int32)) (s : Sg) (l1 : Int32) (l2 : Int32) (l3 : Int32) : Option (Sg × Int32) :=
  gd (inb 55 5665) (
  gif ((l3 : Int32) < (rI s 43 0 (ix 55))) (
    gif ((l2 : Int32) = 0) (
      K4 s l1 0 (l3 + 1))
    (
      gd (inb (39 + (2 * l3)) 5665) (
      gd (inb ((4 * l1) + (rI s 43 0 (ix (39 + (2 * l3))))) 96) (
      gd (inb ((39 + (2 * l3)) + 1) 5665) (
      gif (((rI s 70 0 (ix ((4 * l1) + (rI s 43 0 (ix (39 + (2 * l3))))))) : Int32) = (rI s 43 0 (ix ((39 + (2 * l3)) + 1)))) (
        K4 s l1 1 (l3 + 1))
      (
        K4 s l1 0 (l3 + 1)))))))
  (
    gd (isB l2) (some (s, l2))))
noncomputable def m_isSo_b4 : Nat → Sg → Int32 → Int32 → Int32 → Option (Sg × Int32)
  | 0 => fun _ _ _ _ => none
  | n + 1 => m_isSo_b4_G (m_isSo_b4 n)
noncomputable def t_m_isSo_b4 (K4 : Sg → Int32 → Int32 → Int32 → Option (Sg × Int32)) : Bk (Sg × Int32) := (s_ldI 3 (s_ldA 0 (s_getRc 10 2 43 0 (s_ic 55 (s_iald 43 5665 (s_clt
  (s_ldI 2 (s_eq0
    (s_ic 0 (s_stI 2 (s_inc 3 1 (s_goto (p_C 0 10 0 <| p_I 1 fun a1 => p_I 2 fun a2 => p_I 3 fun a3 => p_E fun s => K4 s a1 a2 a3)))))
    (s_ldA 0 (s_getRc 10 56 70 0 (s_ic 4 (s_ldI 1 (s_bin (fun x y => x * y) (s_ldA 0 (s_getRc 10 2 43 0 (s_ic 39 (s_ic 2 (s_ldI 3 (s_bin (fun x y => x * y) (s_bin (fun x y => x + y) (s_iald 43 5665 (s_bin (fun x y => x + y) (s_iald 70 96 (s_ldA 0 (s_getRc 10 2 43 0 (s_ic 39 (s_ic 2 (s_ldI 3 (s_bin (fun x y => x * y) (s_bin (fun x y => x + y) (s_ic 1 (s_bin (fun x y => x + y) (s_iald 43 5665 (s_ceq
      (s_ic 1 (s_goto (s_stI 2 (s_inc 3 1 (s_goto (p_C 0 10 0 <| p_I 1 fun a1 => p_I 2 fun a2 => p_I 3 fun a3 => p_E fun s => K4 s a1 a2 a3))))))
      (s_ic 0 (s_stI 2 (s_inc 3 1 (s_goto (p_C 0 10 0 <| p_I 1 fun a1 => p_I 2 fun a2 => p_I 3 fun a3 => p_E fun s => K4 s a1 a2 a3)))))))))))))))))))))))))))))))))
  (s_ldI 2 (s_zret retI))))))))
set_option maxRecDepth 20000 in
theorem e_m_isSo_b4 (K4 : Sg → Int32 → Int32 → Int32 → Option (Sg × Int32)) (s : Sg) (l1 : Int32) (l2 : Int32) (l3 : Int32) : m_isSo_b4_G K4 s l1 l2 l3 = t_m_isSo_b4 K4 [some (.inr (.inr (some (10, 0)))), some (.inl l1), some (.inl l2), some (.inl l3)] [] s := rfl
noncomputable def m_isSo_G (K4 : Sg → Int32 → Int32 → Int32 → Option (Sg × Int32)) (s : Sg) (l1 : Int32) : Option (Sg × Int32) :=
  K4 s l1 1 0
noncomputable def m_isSo : Sg → Int32 → Option (Sg × Int32) := m_isSo_G (m_isSo_b4 FU)
noncomputable def t_m_isSo (K4 : Sg → Int32 → Int32 → Int32 → Option (Sg × Int32)) : Bk (Sg × Int32) := (s_ic 1 (s_stI 2 (s_ic 0 (s_stI 3 (p_C 0 10 0 <| p_I 1 fun a1 => p_I 2 fun a2 => p_I 3 fun a3 => p_E fun s => K4 s a1 a2 a3)))))
set_option maxRecDepth 20000 in
theorem e_m_isSo (K4 : Sg → Int32 → Int32 → Int32 → Option (Sg × Int32)) (s : Sg) (l1 : Int32) : m_isSo_G K4 s l1 = t_m_isSo K4 [some (.inr (.inr (some (10, 0)))), some (.inl l1), none, none] [] s := rfl
noncomputable def m_canBe_b8_G (K8 : Sg → Int32 → Int32 → Option (Sg × Int32)) (c_m_isSo : Sg → Int32 → Option (Sg × Int32)) (s : Sg) (l1 : Int32) (l2 : Int32) : Option (Sg × Int32) :=
  gif ((l2 : Int32) < (rI s 10 0 43)) (
    (c_m_isSo s l2).bind fun q1 => (
    gif ((q1.2 : Int32) = 0) (
      K8 q1.1 (l1 ||| 0) (l2 + 1))
    (
      K8 q1.1 (l1 ||| (1 <<< (l2 &&& 31))) (l2 + 1))))
  (
    some (s, l1))
noncomputable def m_canBe_b8 : Nat → Sg → Int32 → Int32 → Option (Sg × Int32)
  | 0 => fun _ _ _ => none
  | n + 1 => m_canBe_b8_G (m_canBe_b8 n) m_isSo
noncomputable def t_m_canBe_b8 (K8 : Sg → Int32 → Int32 → Option (Sg × Int32)) (c_m_isSo : Sg → Int32 → Option (Sg × Int32)) : Bk (Sg × Int32) := (s_ldI 2 (s_ldA 0 (s_getI 10 43 (s_clt
  (s_ldI 1 (s_ldA 0 (s_ldI 2 (s_call (FW_m_isSo c_m_isSo) 2 (s_eq0
    (s_ic 0 (s_bin (fun x y => x ||| y) (s_stI 1 (s_inc 2 1 (s_goto (p_C 0 10 0 <| p_I 1 fun a1 => p_I 2 fun a2 => p_E fun s => K8 s a1 a2))))))
    (s_ic 1 (s_ldI 2 (s_bin (fun x y => x <<< (y &&& 31)) (s_goto (s_bin (fun x y => x ||| y) (s_stI 1 (s_inc 2 1 (s_goto (p_C 0 10 0 <| p_I 1 fun a1 => p_I 2 fun a2 => p_E fun s => K8 s a1 a2))))))))))))))
  (s_ldI 1 (s_iret retI))))))
set_option maxRecDepth 20000 in
theorem e_m_canBe_b8 (K8 : Sg → Int32 → Int32 → Option (Sg × Int32)) (c_m_isSo : Sg → Int32 → Option (Sg × Int32)) (s : Sg) (l1 : Int32) (l2 : Int32) : m_canBe_b8_G K8 c_m_isSo s l1 l2 = t_m_canBe_b8 K8 c_m_isSo [some (.inr (.inr (some (10, 0)))), some (.inl l1), some (.inl l2)] [] s := rfl
noncomputable def m_canBe_G (K8 : Sg → Int32 → Int32 → Option (Sg × Int32)) (c_m_laysFacts : Sg → Option Sg) (s : Sg) : Option (Sg × Int32) :=
  (c_m_laysFacts s).bind fun s1 => (
  K8 s1 0 0)
noncomputable def m_canBe : Sg → Option (Sg × Int32) := m_canBe_G (m_canBe_b8 FU) m_laysFacts
noncomputable def t_m_canBe (K8 : Sg → Int32 → Int32 → Option (Sg × Int32)) (c_m_laysFacts : Sg → Option Sg) : Bk (Sg × Int32) := (s_ldA 0 (s_call (FW_m_laysFacts c_m_laysFacts) 1 (s_ic 0 (s_stI 1 (s_ic 0 (s_stI 2 (p_C 0 10 0 <| p_I 1 fun a1 => p_I 2 fun a2 => p_E fun s => K8 s a1 a2)))))))
set_option maxRecDepth 20000 in
theorem e_m_canBe (K8 : Sg → Int32 → Int32 → Option (Sg × Int32)) (c_m_laysFacts : Sg → Option Sg) (s : Sg) : m_canBe_G K8 c_m_laysFacts s = t_m_canBe K8 c_m_laysFacts [some (.inr (.inr (some (10, 0)))), none, none] [] s := rfl
noncomputable def m_mostAlike_b20_G (K5 : Sg → Int32 → Int32 → Int32 → Int32 → Option (Sg × Int32)) (K20 : Sg → Int32 → Int32 → Int32 → Int32 → Int32 → Int32 → Option (Sg × Int32)) (c_m_isIn : Sg → Int32 → Int32 → Option (Sg × Int32)) (c_m_greater : Sg → Int32 → Int32 → Option (Sg × Int32)) (s : Sg) (l1 : Int32) (l2 : Int32) (l3 : Int32) (l4 : Int32) (l5 : Int32) (l6 : Int32) : Option (Sg × Int32) :=
  gif ((l6 : Int32) < (rI s 10 0 43)) (
    (c_m_isIn s l1 l6).bind fun q1 => (
    gif ((q1.2 : Int32) = 0) (
      K20 q1.1 l1 l2 l3 l4 (l5 + 0) (l6 + 1))
    (
      gd (inb ((4 * l4) + l2) 96) (
      gd (inb ((4 * l6) + l2) 96) (
      gif (((rI q1.1 70 0 (ix ((4 * l4) + l2))) : Int32) = (rI q1.1 70 0 (ix ((4 * l6) + l2)))) (
        K20 q1.1 l1 l2 l3 l4 (l5 + 1) (l6 + 1))
      (
        K20 q1.1 l1 l2 l3 l4 (l5 + 0) (l6 + 1)))))))
  (
    (c_m_isIn s l1 l4).bind fun q2 => (
    gif ((q2.2 : Int32) = 0) (
      K5 q2.1 l1 l2 l3 (l4 + 1))
    (
      (c_m_greater q2.1 l3 l5).bind fun q3 => (
      K5 q3.1 l1 l2 q3.2 (l4 + 1)))))
noncomputable def m_mostAlike_b20 (K5 : Sg → Int32 → Int32 → Int32 → Int32 → Option (Sg × Int32)) : Nat → Sg → Int32 → Int32 → Int32 → Int32 → Int32 → Int32 → Option (Sg × Int32)
  | 0 => fun _ _ _ _ _ _ _ => none
  | n + 1 => m_mostAlike_b20_G K5 (m_mostAlike_b20 K5 n) m_isIn m_greater
noncomputable def t_m_mostAlike_b20 (K5 : Sg → Int32 → Int32 → Int32 → Int32 → Option (Sg × Int32)) (K20 : Sg → Int32 → Int32 → Int32 → Int32 → Int32 → Int32 → Option (Sg × Int32)) (c_m_isIn : Sg → Int32 → Int32 → Option (Sg × Int32)) (c_m_greater : Sg → Int32 → Int32 → Option (Sg × Int32)) : Bk (Sg × Int32) := (s_ldI 6 (s_ldA 0 (s_getI 10 43 (s_clt
  (s_ldI 5 (s_ldI 1 (s_ldI 6 (s_call (FW_m_isIn c_m_isIn) 2 (s_eq0
    (s_ic 0 (s_bin (fun x y => x + y) (s_stI 5 (s_inc 6 1 (s_goto (p_C 0 10 0 <| p_I 1 fun a1 => p_I 2 fun a2 => p_I 3 fun a3 => p_I 4 fun a4 => p_I 5 fun a5 => p_I 6 fun a6 => p_E fun s => K20 s a1 a2 a3 a4 a5 a6))))))
    (s_ldA 0 (s_getRc 10 56 70 0 (s_ic 4 (s_ldI 4 (s_bin (fun x y => x * y) (s_ldI 2 (s_bin (fun x y => x + y) (s_iald 70 96 (s_ldA 0 (s_getRc 10 56 70 0 (s_ic 4 (s_ldI 6 (s_bin (fun x y => x * y) (s_ldI 2 (s_bin (fun x y => x + y) (s_iald 70 96 (s_ceq
      (s_ic 1 (s_goto (s_bin (fun x y => x + y) (s_stI 5 (s_inc 6 1 (s_goto (p_C 0 10 0 <| p_I 1 fun a1 => p_I 2 fun a2 => p_I 3 fun a3 => p_I 4 fun a4 => p_I 5 fun a5 => p_I 6 fun a6 => p_E fun s => K20 s a1 a2 a3 a4 a5 a6)))))))
      (s_ic 0 (s_bin (fun x y => x + y) (s_stI 5 (s_inc 6 1 (s_goto (p_C 0 10 0 <| p_I 1 fun a1 => p_I 2 fun a2 => p_I 3 fun a3 => p_I 4 fun a4 => p_I 5 fun a5 => p_I 6 fun a6 => p_E fun s => K20 s a1 a2 a3 a4 a5 a6))))))))))))))))))))))))))))
  (s_ldI 1 (s_ldI 4 (s_call (FW_m_isIn c_m_isIn) 2 (s_eq0
    (s_ldI 3 (s_stI 3 (s_inc 4 1 (s_goto (p_C 0 10 0 <| p_I 1 fun a1 => p_I 2 fun a2 => p_I 3 fun a3 => p_I 4 fun a4 => p_E fun s => K5 s a1 a2 a3 a4)))))
    (s_ldI 3 (s_ldI 5 (s_call (FW_m_greater c_m_greater) 2 (s_goto (s_stI 3 (s_inc 4 1 (s_goto (p_C 0 10 0 <| p_I 1 fun a1 => p_I 2 fun a2 => p_I 3 fun a3 => p_I 4 fun a4 => p_E fun s => K5 s a1 a2 a3 a4))))))))))))))))
set_option maxRecDepth 20000 in
theorem e_m_mostAlike_b20 (K5 : Sg → Int32 → Int32 → Int32 → Int32 → Option (Sg × Int32)) (K20 : Sg → Int32 → Int32 → Int32 → Int32 → Int32 → Int32 → Option (Sg × Int32)) (c_m_isIn : Sg → Int32 → Int32 → Option (Sg × Int32)) (c_m_greater : Sg → Int32 → Int32 → Option (Sg × Int32)) (s : Sg) (l1 : Int32) (l2 : Int32) (l3 : Int32) (l4 : Int32) (l5 : Int32) (l6 : Int32) : m_mostAlike_b20_G K5 K20 c_m_isIn c_m_greater s l1 l2 l3 l4 l5 l6 = t_m_mostAlike_b20 K5 K20 c_m_isIn c_m_greater [some (.inr (.inr (some (10, 0)))), some (.inl l1), some (.inl l2), some (.inl l3), some (.inl l4), some (.inl l5), some (.inl l6)] [] s := rfl
noncomputable def m_mostAlike_b5_G (K20 : Sg → Int32 → Int32 → Int32 → Int32 → Int32 → Int32 → Option (Sg × Int32)) (s : Sg) (l1 : Int32) (l2 : Int32) (l3 : Int32) (l4 : Int32) : Option (Sg × Int32) :=
  gif ((l4 : Int32) < (rI s 10 0 43)) (
    K20 s l1 l2 l3 l4 0 0)
  (
    some (s, l3))
noncomputable def m_mostAlike_b5 : Nat → Sg → Int32 → Int32 → Int32 → Int32 → Option (Sg × Int32)
  | 0 => fun _ _ _ _ _ => none
  | n + 1 => m_mostAlike_b5_G (m_mostAlike_b20 (m_mostAlike_b5 n) FU)
noncomputable def t_m_mostAlike_b5 (K20 : Sg → Int32 → Int32 → Int32 → Int32 → Int32 → Int32 → Option (Sg × Int32)) : Bk (Sg × Int32) := (s_ldI 4 (s_ldA 0 (s_getI 10 43 (s_clt
  (s_ic 0 (s_stI 5 (s_ic 0 (s_stI 6 (p_C 0 10 0 <| p_I 1 fun a1 => p_I 2 fun a2 => p_I 3 fun a3 => p_I 4 fun a4 => p_I 5 fun a5 => p_I 6 fun a6 => p_E fun s => K20 s a1 a2 a3 a4 a5 a6)))))
  (s_ldI 3 (s_iret retI))))))
set_option maxRecDepth 20000 in
theorem e_m_mostAlike_b5 (K20 : Sg → Int32 → Int32 → Int32 → Int32 → Int32 → Int32 → Option (Sg × Int32)) (s : Sg) (l1 : Int32) (l2 : Int32) (l3 : Int32) (l4 : Int32) : m_mostAlike_b5_G K20 s l1 l2 l3 l4 = t_m_mostAlike_b5 K20 [some (.inr (.inr (some (10, 0)))), some (.inl l1), some (.inl l2), some (.inl l3), some (.inl l4), none, none] [] s := rfl
noncomputable def m_mostAlike_G (K5 : Sg → Int32 → Int32 → Int32 → Int32 → Option (Sg × Int32)) (s : Sg) (l1 : Int32) (l2 : Int32) : Option (Sg × Int32) :=
  K5 s l1 l2 0 0
noncomputable def m_mostAlike : Sg → Int32 → Int32 → Option (Sg × Int32) := m_mostAlike_G (m_mostAlike_b5 FU)
noncomputable def t_m_mostAlike (K5 : Sg → Int32 → Int32 → Int32 → Int32 → Option (Sg × Int32)) : Bk (Sg × Int32) := (s_ic 0 (s_stI 3 (s_ic 0 (s_stI 4 (p_C 0 10 0 <| p_I 1 fun a1 => p_I 2 fun a2 => p_I 3 fun a3 => p_I 4 fun a4 => p_E fun s => K5 s a1 a2 a3 a4)))))
set_option maxRecDepth 20000 in
theorem e_m_mostAlike (K5 : Sg → Int32 → Int32 → Int32 → Int32 → Option (Sg × Int32)) (s : Sg) (l1 : Int32) (l2 : Int32) : m_mostAlike_G K5 s l1 l2 = t_m_mostAlike K5 [some (.inr (.inr (some (10, 0)))), some (.inl l1), some (.inl l2), none, none, none, none] [] s := rfl
noncomputable def m_look_b26_G (K26 : Sg → Int32 → Int32 → Int32 → Int32 → Int32 → Option (Sg × Int32)) (c_m_mostAlike : Sg → Int32 → Int32 → Option (Sg × Int32)) (s : Sg) (l1 : Int32) (l2 : Int32) (l3 : Int32) (l4 : Int32) (l5 : Int32) : Option (Sg × Int32) :=
  gif ((l5 : Int32) < 4) (
    gif ((l2 : Int32) = 0) (
      gif ((l3 : Int32) = (-1)) (
        some (s, l3))
      (
        gif ((l1 : Int32) = 0) (
          some (s, l3))
        (
          some (s, l4))))
    (
      (c_m_mostAlike s l2 l5).bind fun q1 => (
      gif ((q1.2 : Int32) < l4) (
        K26 q1.1 l1 l2 l5 q1.2 (l5 + 1))
      (
        K26 q1.1 l1 l2 l3 l4 (l5 + 1)))))
  (
    gif ((l3 : Int32) = (-1)) (
      some (s, l3))
    (
      gif ((l1 : Int32) = 0) (
        some (s, l3))
      (
        some (s, l4))))
noncomputable def m_look_b26 : Nat → Sg → Int32 → Int32 → Int32 → Int32 → Int32 → Option (Sg × Int32)
  | 0 => fun _ _ _ _ _ _ => none
  | n + 1 => m_look_b26_G (m_look_b26 n) m_mostAlike
noncomputable def t_m_look_b26 (K26 : Sg → Int32 → Int32 → Int32 → Int32 → Int32 → Option (Sg × Int32)) (c_m_mostAlike : Sg → Int32 → Int32 → Option (Sg × Int32)) : Bk (Sg × Int32) := (s_ldI 5 (s_ic 4 (s_clt
  (s_ldI 2 (s_eq0
    (s_ldI 3 (s_ic (-1) (s_ceq
      (s_ldI 3 (s_goto (s_iret retI)))
      (s_ldI 1 (s_eq0
        (s_ldI 3 (s_goto (s_iret retI)))
        (s_ldI 4 (s_iret retI)))))))
    (s_ldA 0 (s_ldI 2 (s_ldI 5 (s_call (FW_m_mostAlike c_m_mostAlike) 3 (s_stI 6 (s_ldI 6 (s_ldI 4 (s_clt
      (s_ldI 6 (s_stI 4 (s_ldI 5 (s_stI 3 (s_inc 5 1 (s_goto (p_C 0 10 0 <| p_I 1 fun a1 => p_I 2 fun a2 => p_I 3 fun a3 => p_I 4 fun a4 => p_I 5 fun a5 => p_E fun s => K26 s a1 a2 a3 a4 a5)))))))
      (s_goto (s_inc 5 1 (s_goto (p_C 0 10 0 <| p_I 1 fun a1 => p_I 2 fun a2 => p_I 3 fun a3 => p_I 4 fun a4 => p_I 5 fun a5 => p_E fun s => K26 s a1 a2 a3 a4 a5))))))))))))))
  (s_ldI 3 (s_ic (-1) (s_ceq
    (s_ldI 3 (s_goto (s_iret retI)))
    (s_ldI 1 (s_eq0
      (s_ldI 3 (s_goto (s_iret retI)))
      (s_ldI 4 (s_iret retI))))))))))
set_option maxRecDepth 20000 in
theorem e_m_look_b26 (K26 : Sg → Int32 → Int32 → Int32 → Int32 → Int32 → Option (Sg × Int32)) (c_m_mostAlike : Sg → Int32 → Int32 → Option (Sg × Int32)) (s : Sg) (l1 : Int32) (l2 : Int32) (l3 : Int32) (l4 : Int32) (l5 : Int32) : m_look_b26_G K26 c_m_mostAlike s l1 l2 l3 l4 l5 = t_m_look_b26 K26 c_m_mostAlike [some (.inr (.inr (some (10, 0)))), some (.inl l1), some (.inl l2), some (.inl l3), some (.inl l4), some (.inl l5), none] [] s := rfl
noncomputable def m_look_G (K26 : Sg → Int32 → Int32 → Int32 → Int32 → Int32 → Option (Sg × Int32)) (c_m_lies : Sg → Int32 → Int32 → Int32 → Option (Sg × Int32)) (c_m_canBe : Sg → Option (Sg × Int32)) (s : Sg) (l1 : Int32) : Option (Sg × Int32) :=
  (c_m_lies s l1 0 1).bind fun q1 => (
  gif ((q1.2 : Int32) = 0) (
    some (q1.1, (-1)))
  (
    (c_m_canBe q1.1).bind fun q2 => (
    K26 q2.1 l1 q2.2 (-1) 100000000 0)))
noncomputable def m_look : Sg → Int32 → Option (Sg × Int32) := m_look_G (m_look_b26 FU) m_lies m_canBe
noncomputable def t_m_look (K26 : Sg → Int32 → Int32 → Int32 → Int32 → Int32 → Option (Sg × Int32)) (c_m_lies : Sg → Int32 → Int32 → Int32 → Option (Sg × Int32)) (c_m_canBe : Sg → Option (Sg × Int32)) : Bk (Sg × Int32) := (s_ldI 1 (s_ic 0 (s_ic 1 (s_call (FW_m_lies c_m_lies) 3 (s_eq0
  (s_ic (-1) (s_iret retI))
  (s_ldA 0 (s_call (FW_m_canBe c_m_canBe) 1 (s_stI 2 (s_ic (-1) (s_stI 3 (s_ic 100000000 (s_stI 4 (s_ic 0 (s_stI 5 (p_C 0 10 0 <| p_I 1 fun a1 => p_I 2 fun a2 => p_I 3 fun a3 => p_I 4 fun a4 => p_I 5 fun a5 => p_E fun s => K26 s a1 a2 a3 a4 a5)))))))))))))))
set_option maxRecDepth 20000 in
theorem e_m_look (K26 : Sg → Int32 → Int32 → Int32 → Int32 → Int32 → Option (Sg × Int32)) (c_m_lies : Sg → Int32 → Int32 → Int32 → Option (Sg × Int32)) (c_m_canBe : Sg → Option (Sg × Int32)) (s : Sg) (l1 : Int32) : m_look_G K26 c_m_lies c_m_canBe s l1 = t_m_look K26 c_m_lies c_m_canBe [some (.inr (.inr (some (10, 0)))), some (.inl l1), none, none, none, none, none] [] s := rfl
noncomputable def m_few_b151_G (K151 : Sg → Int32 → Int64 → Int32 → Option (Sg × Int64)) (s : Sg) (l1 : Int32) (l3 : Int64) (l5 : Int32) : Option (Sg × Int64) :=
  gif ((l5 : Int32) < l1) (
    gd (inb l5 21) (
    K151 s l1 (l3 + (rL s 71 0 (ix l5))) (l5 + 1)))
  (
    some (s, l3))
noncomputable def m_few_b151 : Nat → Sg → Int32 → Int64 → Int32 → Option (Sg × Int64)
  | 0 => fun _ _ _ _ => none
  | n + 1 => m_few_b151_G (m_few_b151 n)
noncomputable def t_m_few_b151 (K151 : Sg → Int32 → Int64 → Int32 → Option (Sg × Int64)) : Bk (Sg × Int64) := (s_ldI 5 (s_ldI 1 (s_clt
  (s_ldL 3 (s_ldA 0 (s_getRc 10 57 71 0 (s_ldI 5 (s_lald 71 21 (s_lbin (fun x y => x + y) (s_stL 3 (s_inc 5 1 (s_goto (p_C 0 10 0 <| p_I 1 fun a1 => p_L 3 fun a3 => p_I 5 fun a5 => p_E fun s => K151 s a1 a3 a5))))))))))
  (s_ldL 3 (s_lret retL)))))
set_option maxRecDepth 20000 in
theorem e_m_few_b151 (K151 : Sg → Int32 → Int64 → Int32 → Option (Sg × Int64)) (s : Sg) (l1 : Int32) (l3 : Int64) (l5 : Int32) : m_few_b151_G K151 s l1 l3 l5 = t_m_few_b151 K151 [some (.inr (.inr (some (10, 0)))), some (.inl l1), none, some (.inr (.inl l3)), none, some (.inl l5)] [] s := rfl
noncomputable def m_few_b67_G (K57 : Sg → Int32 → Int32 → Int32 → Option (Sg × Int64)) (K67 : Sg → Int32 → Int32 → Int32 → Int32 → Option (Sg × Int64)) (s : Sg) (l1 : Int32) (l2 : Int32) (l3 : Int32) (l4 : Int32) : Option (Sg × Int64) :=
  gif ((l4 : Int32) < 0) (
    K57 s l1 l2 (l3 + 1))
  (
    gd (inb (l4 + 1) 21) (
    gd (inb l4 21) (
    gd (inb 51 5665) (
    gd (¬ 10 = (0 : Int64)) (
    gd (inb (l4 + 1) 21) (
    let s1 := wL s 71 0 (ix (l4 + 1)) ((rL s 71 0 (ix (l4 + 1))) + (((rL s 71 0 (ix l4)) * (Int32.toInt64 (rI s 43 0 (ix 51)))) / 10))
    gd (inb l4 21) (
    gd (inb 51 5665) (
    gd (¬ 10 = (0 : Int64)) (
    gd (inb l4 21) (
    let s2 := wL s1 71 0 (ix l4) (((rL s1 71 0 (ix l4)) * (Int32.toInt64 (10 - (rI s1 43 0 (ix 51))))) / 10)
    K67 s2 l1 l2 l3 (l4 + (-1))))))))))))
noncomputable def m_few_b67 (K57 : Sg → Int32 → Int32 → Int32 → Option (Sg × Int64)) : Nat → Sg → Int32 → Int32 → Int32 → Int32 → Option (Sg × Int64)
  | 0 => fun _ _ _ _ _ => none
  | n + 1 => m_few_b67_G K57 (m_few_b67 K57 n)
noncomputable def t_m_few_b67 (K57 : Sg → Int32 → Int32 → Int32 → Option (Sg × Int64)) (K67 : Sg → Int32 → Int32 → Int32 → Int32 → Option (Sg × Int64)) : Bk (Sg × Int64) := (s_ldI 4 (s_lt0
  (s_inc 3 1 (s_goto (p_C 0 10 0 <| p_I 1 fun a1 => p_I 2 fun a2 => p_I 3 fun a3 => p_E fun s => K57 s a1 a2 a3)))
  (s_ldA 0 (s_getRc 10 57 71 0 (s_ldI 4 (s_ic 1 (s_bin (fun x y => x + y) (s_dup2 (s_lald 71 21 (s_ldA 0 (s_getRc 10 57 71 0 (s_ldI 4 (s_lald 71 21 (s_ldA 0 (s_getRc 10 2 43 0 (s_ic 51 (s_iald 43 5665 (s_i2l (s_lbin (fun x y => x * y) (s_lc 10 (s_ldivr (fun x y => x / y) (s_lbin (fun x y => x + y) (s_last 71 21 (s_ldA 0 (s_getRc 10 57 71 0 (s_ldI 4 (s_ldA 0 (s_getRc 10 57 71 0 (s_ldI 4 (s_lald 71 21 (s_ic 10 (s_ldA 0 (s_getRc 10 2 43 0 (s_ic 51 (s_iald 43 5665 (s_bin (fun x y => x - y) (s_i2l (s_lbin (fun x y => x * y) (s_lc 10 (s_ldivr (fun x y => x / y) (s_last 71 21 (s_inc 4 (-1) (s_goto (p_C 0 10 0 <| p_I 1 fun a1 => p_I 2 fun a2 => p_I 3 fun a3 => p_I 4 fun a4 => p_E fun s => K67 s a1 a2 a3 a4))))))))))))))))))))))))))))))))))))))))))))
set_option maxRecDepth 20000 in
theorem e_m_few_b67 (K57 : Sg → Int32 → Int32 → Int32 → Option (Sg × Int64)) (K67 : Sg → Int32 → Int32 → Int32 → Int32 → Option (Sg × Int64)) (s : Sg) (l1 : Int32) (l2 : Int32) (l3 : Int32) (l4 : Int32) : m_few_b67_G K57 K67 s l1 l2 l3 l4 = t_m_few_b67 K57 K67 [some (.inr (.inr (some (10, 0)))), some (.inl l1), some (.inl l2), some (.inl l3), some (.inl l4), none] [] s := rfl
noncomputable def m_few_b57_G (K67 : Sg → Int32 → Int32 → Int32 → Int32 → Option (Sg × Int64)) (K151 : Sg → Int32 → Int64 → Int32 → Option (Sg × Int64)) (s : Sg) (l1 : Int32) (l2 : Int32) (l3 : Int32) : Option (Sg × Int64) :=
  gif ((l3 : Int32) < l2) (
    K67 s l1 l2 l3 (l1 - 1))
  (
    K151 s l1 0 0)
noncomputable def m_few_b57 : Nat → Sg → Int32 → Int32 → Int32 → Option (Sg × Int64)
  | 0 => fun _ _ _ _ => none
  | n + 1 => m_few_b57_G (m_few_b67 (m_few_b57 n) FU) (m_few_b151 FU)
noncomputable def t_m_few_b57 (K67 : Sg → Int32 → Int32 → Int32 → Int32 → Option (Sg × Int64)) (K151 : Sg → Int32 → Int64 → Int32 → Option (Sg × Int64)) : Bk (Sg × Int64) := (s_ldI 3 (s_ldI 2 (s_clt
  (s_ldI 1 (s_ic 1 (s_bin (fun x y => x - y) (s_stI 4 (p_C 0 10 0 <| p_I 1 fun a1 => p_I 2 fun a2 => p_I 3 fun a3 => p_I 4 fun a4 => p_E fun s => K67 s a1 a2 a3 a4)))))
  (s_lc 0 (s_stL 3 (s_ic 0 (s_stI 5 (p_C 0 10 0 <| p_I 1 fun a1 => p_L 3 fun a3 => p_I 5 fun a5 => p_E fun s => K151 s a1 a3 a5))))))))
set_option maxRecDepth 20000 in
theorem e_m_few_b57 (K67 : Sg → Int32 → Int32 → Int32 → Int32 → Option (Sg × Int64)) (K151 : Sg → Int32 → Int64 → Int32 → Option (Sg × Int64)) (s : Sg) (l1 : Int32) (l2 : Int32) (l3 : Int32) : m_few_b57_G K67 K151 s l1 l2 l3 = t_m_few_b57 K67 K151 [some (.inr (.inr (some (10, 0)))), some (.inl l1), some (.inl l2), some (.inl l3), none, none] [] s := rfl
noncomputable def m_few_b26_G (K26 : Sg → Int32 → Int32 → Int32 → Option (Sg × Int64)) (K57 : Sg → Int32 → Int32 → Int32 → Option (Sg × Int64)) (s : Sg) (l1 : Int32) (l2 : Int32) (l3 : Int32) : Option (Sg × Int64) :=
  gif ((20 : Int32) < l3) (
    K57 s l1 l2 0)
  (
    gif ((l3 : Int32) = 0) (
      gd (inb l3 21) (
      let s1 := wL s 71 0 (ix l3) 1000000000000
      K26 s1 l1 l2 (l3 + 1)))
    (
      gd (inb l3 21) (
      let s2 := wL s 71 0 (ix l3) 0
      K26 s2 l1 l2 (l3 + 1))))
noncomputable def m_few_b26 : Nat → Sg → Int32 → Int32 → Int32 → Option (Sg × Int64)
  | 0 => fun _ _ _ _ => none
  | n + 1 => m_few_b26_G (m_few_b26 n) (m_few_b57 FU)
noncomputable def t_m_few_b26 (K26 : Sg → Int32 → Int32 → Int32 → Option (Sg × Int64)) (K57 : Sg → Int32 → Int32 → Int32 → Option (Sg × Int64)) : Bk (Sg × Int64) := (s_ldI 3 (s_ic 20 (s_cgt
  (s_ic 0 (s_stI 3 (p_C 0 10 0 <| p_I 1 fun a1 => p_I 2 fun a2 => p_I 3 fun a3 => p_E fun s => K57 s a1 a2 a3)))
  (s_ldA 0 (s_getRc 10 57 71 0 (s_ldI 3 (s_ldI 3 (s_eq0
    (s_lc 1000000000000 (s_goto (s_last 71 21 (s_inc 3 1 (s_goto (p_C 0 10 0 <| p_I 1 fun a1 => p_I 2 fun a2 => p_I 3 fun a3 => p_E fun s => K26 s a1 a2 a3))))))
    (s_lc 0 (s_last 71 21 (s_inc 3 1 (s_goto (p_C 0 10 0 <| p_I 1 fun a1 => p_I 2 fun a2 => p_I 3 fun a3 => p_E fun s => K26 s a1 a2 a3)))))))))))))
set_option maxRecDepth 20000 in
theorem e_m_few_b26 (K26 : Sg → Int32 → Int32 → Int32 → Option (Sg × Int64)) (K57 : Sg → Int32 → Int32 → Int32 → Option (Sg × Int64)) (s : Sg) (l1 : Int32) (l2 : Int32) (l3 : Int32) : m_few_b26_G K26 K57 s l1 l2 l3 = t_m_few_b26 K26 K57 [some (.inr (.inr (some (10, 0)))), some (.inl l1), some (.inl l2), some (.inl l3), none, none] [] s := rfl
noncomputable def m_few_G (K26 : Sg → Int32 → Int32 → Int32 → Option (Sg × Int64)) (c_m_lies : Sg → Int32 → Int32 → Int32 → Option (Sg × Int32)) (s : Sg) (l1 : Int32) (l2 : Int32) : Option (Sg × Int64) :=
  (c_m_lies s l1 1 20).bind fun q1 => (
  gif ((q1.2 : Int32) = 0) (
    some (q1.1, (-1)))
  (
    (c_m_lies q1.1 l2 0 99).bind fun q2 => (
    gif ((q2.2 : Int32) = 0) (
      some (q2.1, (-1)))
    (
      K26 q2.1 l1 l2 0))))
noncomputable def m_few : Sg → Int32 → Int32 → Option (Sg × Int64) := m_few_G (m_few_b26 FU) m_lies
noncomputable def t_m_few (K26 : Sg → Int32 → Int32 → Int32 → Option (Sg × Int64)) (c_m_lies : Sg → Int32 → Int32 → Int32 → Option (Sg × Int32)) : Bk (Sg × Int64) := (s_ldI 1 (s_ic 1 (s_ic 20 (s_call (FW_m_lies c_m_lies) 3 (s_eq0
  (s_lc (-1) (s_lret retL))
  (s_ldI 2 (s_ic 0 (s_ic 99 (s_call (FW_m_lies c_m_lies) 3 (s_eq0
    (s_lc (-1) (s_lret retL))
    (s_ic 0 (s_stI 3 (p_C 0 10 0 <| p_I 1 fun a1 => p_I 2 fun a2 => p_I 3 fun a3 => p_E fun s => K26 s a1 a2 a3)))))))))))))
set_option maxRecDepth 20000 in
theorem e_m_few (K26 : Sg → Int32 → Int32 → Int32 → Option (Sg × Int64)) (c_m_lies : Sg → Int32 → Int32 → Int32 → Option (Sg × Int32)) (s : Sg) (l1 : Int32) (l2 : Int32) : m_few_G K26 c_m_lies s l1 l2 = t_m_few K26 c_m_lies [some (.inr (.inr (some (10, 0)))), some (.inl l1), some (.inl l2), none, none, none] [] s := rfl
noncomputable def m_stopped_G (s : Sg) : Option (Sg × Int32) :=
  some (s, (rI s 10 0 58))
noncomputable def m_stopped : Sg → Option (Sg × Int32) := m_stopped_G
noncomputable def t_m_stopped : Bk (Sg × Int32) := (s_ldA 0 (s_getI 10 58 (s_iret retI)))
set_option maxRecDepth 20000 in
theorem e_m_stopped (s : Sg) : m_stopped_G s = t_m_stopped [some (.inr (.inr (some (10, 0))))] [] s := rfl
noncomputable def m_goesAlong_b239_G (s : Sg) (y1 : Int32) : Option Sg :=
  gd (isB y1) (
  let s1 := wI s 10 0 63 y1
  gif (((rI s1 10 0 63) : Int32) = 0) (
    gd (isB 0) (
    let s2 := wI s1 10 0 63 0
    let s3 := wI s2 10 0 25 ((rI s2 10 0 25) + 1)
    some s3))
  (
    gif (((rI s1 10 0 27) : Int32) = 0) (
      gd (isB 1) (
      let s4 := wI s1 10 0 63 1
      let s5 := wI s4 10 0 25 ((rI s4 10 0 25) + 1)
      some s5))
    (
      gd (isB 0) (
      let s6 := wI s1 10 0 63 0
      let s7 := wI s6 10 0 25 ((rI s6 10 0 25) + 1)
      some s7))))
noncomputable def m_goesAlong_b239 : Sg → Int32 → Option Sg := m_goesAlong_b239_G
noncomputable def t_m_goesAlong_b239 : Bk Sg := (s_putZ 10 63 (s_ldA 0 (s_ldA 0 (s_getI 10 63 (s_eq0
  (s_ic 0 (s_putZ 10 63 (s_ldA 0 (s_dup (s_getI 10 25 (s_ic 1 (s_bin (fun x y => x + y) (s_putI 10 25 (s_vret retV)))))))))
  (s_ldA 0 (s_getI 10 27 (s_eq0
    (s_ic 1 (s_goto (s_putZ 10 63 (s_ldA 0 (s_dup (s_getI 10 25 (s_ic 1 (s_bin (fun x y => x + y) (s_putI 10 25 (s_vret retV))))))))))
    (s_ic 0 (s_putZ 10 63 (s_ldA 0 (s_dup (s_getI 10 25 (s_ic 1 (s_bin (fun x y => x + y) (s_putI 10 25 (s_vret retV)))))))))))))))))
set_option maxRecDepth 20000 in
theorem e_m_goesAlong_b239 (s : Sg) (y1 : Int32) : m_goesAlong_b239_G s y1 = t_m_goesAlong_b239 [some (.inr (.inr (some (10, 0)))), none, none, none, none] [.inl y1, .inr (.inr (some (10, 0)))] s := rfl
noncomputable def m_goesAlong_b212_G (K239 : Sg → Int32 → Option Sg) (c_m_passes0 : Sg → Int32 → Option (Sg × Int32)) (c_m_testOf : Sg → Int32 → Option (Sg × Int32)) (s : Sg) (l2 : Int32) : Option Sg :=
  gd (isB 0) (
  let s1 := wI s 10 0 27 0
  (c_m_passes0 s1 4).bind fun q2 => (
  gif ((q2.2 : Int32) = 0) (
    K239 q2.1 1)
  (
    (c_m_testOf q2.1 l2).bind fun q3 => (
    gif ((q3.2 : Int32) = 0) (
      K239 q3.1 0)
    (
      K239 q3.1 1)))))
noncomputable def m_goesAlong_b212 : Sg → Int32 → Option Sg := m_goesAlong_b212_G (m_goesAlong_b239) m_passes0 (m_testOf DR)
noncomputable def t_m_goesAlong_b212 (K239 : Sg → Int32 → Option Sg) (c_m_passes0 : Sg → Int32 → Option (Sg × Int32)) (c_m_testOf : Sg → Int32 → Option (Sg × Int32)) : Bk Sg := (s_ldA 0 (s_ic 0 (s_putZ 10 27 (s_ldA 0 (s_ldA 0 (s_ic 4 (s_call (FW_m_passes0 c_m_passes0) 2 (s_eq0
  (s_ic 1 (s_goto (p_C 0 10 0 <| q_I fun b1 => q_C 10 0 <| p_E fun s => K239 s b1)))
  (s_ldA 0 (s_ldI 2 (s_call (FW_m_testOf c_m_testOf) 2 (s_eq0
    (s_ic 0 (p_C 0 10 0 <| q_I fun b1 => q_C 10 0 <| p_E fun s => K239 s b1))
    (s_ic 1 (s_goto (p_C 0 10 0 <| q_I fun b1 => q_C 10 0 <| p_E fun s => K239 s b1)))))))))))))))
set_option maxRecDepth 20000 in
theorem e_m_goesAlong_b212 (K239 : Sg → Int32 → Option Sg) (c_m_passes0 : Sg → Int32 → Option (Sg × Int32)) (c_m_testOf : Sg → Int32 → Option (Sg × Int32)) (s : Sg) (l2 : Int32) : m_goesAlong_b212_G K239 c_m_passes0 c_m_testOf s l2 = t_m_goesAlong_b212 K239 c_m_passes0 c_m_testOf [some (.inr (.inr (some (10, 0)))), none, some (.inl l2), none, none] [] s := rfl
noncomputable def m_goesAlong_b125_G (K104 : Sg → Int32 → Int32 → Int32 → Option Sg) (c_m_sumOf : Sg → Int32 → Option (Sg × Int64)) (s : Sg) (l2 : Int32) (l3 : Int32) (l4 : Int32) : Option Sg :=
  gd (isB 0) (
  let s1 := wI s 10 0 27 0
  (c_m_sumOf s1 l2).bind fun q2 => (
  gd (inb l4 2) (
  let s3 := wL q2.1 72 0 (ix l4) q2.2
  gif (((rI s3 10 0 62) : Int32) = 0) (
    gd (isB 0) (
    let s4 := wI s3 10 0 62 0
    K104 s4 l2 l3 (l4 + 1)))
  (
    gif (((rI s3 10 0 27) : Int32) = 0) (
      gd (isB 1) (
      let s5 := wI s3 10 0 62 1
      K104 s5 l2 l3 (l4 + 1)))
    (
      gd (isB 0) (
      let s6 := wI s3 10 0 62 0
      K104 s6 l2 l3 (l4 + 1)))))))
noncomputable def m_goesAlong_b125 (K104 : Sg → Int32 → Int32 → Int32 → Option Sg) : Sg → Int32 → Int32 → Int32 → Option Sg := m_goesAlong_b125_G K104 (m_sumOf DR)
noncomputable def t_m_goesAlong_b125 (K104 : Sg → Int32 → Int32 → Int32 → Option Sg) (c_m_sumOf : Sg → Int32 → Option (Sg × Int64)) : Bk Sg := (s_ldA 0 (s_ic 0 (s_putZ 10 27 (s_ldA 0 (s_getRc 10 64 72 0 (s_ldI 4 (s_ldA 0 (s_ldI 2 (s_call (FW_m_sumOf c_m_sumOf) 2 (s_last 72 2 (s_ldA 0 (s_ldA 0 (s_getI 10 62 (s_eq0
  (s_ic 0 (s_putZ 10 62 (s_inc 4 1 (s_goto (p_C 0 10 0 <| p_I 2 fun a2 => p_I 3 fun a3 => p_I 4 fun a4 => p_E fun s => K104 s a2 a3 a4)))))
  (s_ldA 0 (s_getI 10 27 (s_eq0
    (s_ic 1 (s_goto (s_putZ 10 62 (s_inc 4 1 (s_goto (p_C 0 10 0 <| p_I 2 fun a2 => p_I 3 fun a3 => p_I 4 fun a4 => p_E fun s => K104 s a2 a3 a4))))))
    (s_ic 0 (s_putZ 10 62 (s_inc 4 1 (s_goto (p_C 0 10 0 <| p_I 2 fun a2 => p_I 3 fun a3 => p_I 4 fun a4 => p_E fun s => K104 s a2 a3 a4))))))))))))))))))))))
set_option maxRecDepth 20000 in
theorem e_m_goesAlong_b125 (K104 : Sg → Int32 → Int32 → Int32 → Option Sg) (c_m_sumOf : Sg → Int32 → Option (Sg × Int64)) (s : Sg) (l2 : Int32) (l3 : Int32) (l4 : Int32) : m_goesAlong_b125_G K104 c_m_sumOf s l2 l3 l4 = t_m_goesAlong_b125 K104 c_m_sumOf [some (.inr (.inr (some (10, 0)))), none, some (.inl l2), some (.inl l3), some (.inl l4)] [] s := rfl
noncomputable def m_goesAlong_b104_G (K125 : Sg → Int32 → Int32 → Int32 → Option Sg) (K212 : Sg → Int32 → Option Sg) (c_m_passes0 : Sg → Int32 → Option (Sg × Int32)) (s : Sg) (l2 : Int32) (l3 : Int32) (l4 : Int32) : Option Sg :=
  gif ((l4 : Int32) < l3) (
    gif ((0 : Int32) < l4) (
      let s1 := wI s 10 0 25 ((rI s 10 0 25) + 1)
      K125 s1 l2 l3 l4)
    (
      K125 s l2 l3 l4))
  (
    let s2 := wI s 10 0 60 1
    (c_m_passes0 s2 27).bind fun q3 => (
    gif ((q3.2 : Int32) = 0) (
      K212 q3.1 l2)
    (
      gd (inb (2865 + (rI q3.1 10 0 25)) 5665) (
      let s4 := wI q3.1 10 0 60 (rI q3.1 43 0 (ix (2865 + (rI q3.1 10 0 25))))
      let s5 := wI s4 10 0 25 ((rI s4 10 0 25) + 1)
      K212 s5 l2))))
noncomputable def m_goesAlong_b104 : Nat → Sg → Int32 → Int32 → Int32 → Option Sg
  | 0 => fun _ _ _ _ => none
  | n + 1 => m_goesAlong_b104_G (m_goesAlong_b125 (m_goesAlong_b104 n)) (m_goesAlong_b212) m_passes0
noncomputable def t_m_goesAlong_b104 (K125 : Sg → Int32 → Int32 → Int32 → Option Sg) (K212 : Sg → Int32 → Option Sg) (c_m_passes0 : Sg → Int32 → Option (Sg × Int32)) : Bk Sg := (s_ldI 4 (s_ldI 3 (s_clt
  (s_ldI 4 (s_gt0
    (s_ldA 0 (s_dup (s_getI 10 25 (s_ic 1 (s_bin (fun x y => x + y) (s_putI 10 25 (p_C 0 10 0 <| p_I 2 fun a2 => p_I 3 fun a3 => p_I 4 fun a4 => p_E fun s => K125 s a2 a3 a4)))))))
    (p_C 0 10 0 <| p_I 2 fun a2 => p_I 3 fun a3 => p_I 4 fun a4 => p_E fun s => K125 s a2 a3 a4)))
  (s_ldA 0 (s_ic 1 (s_putI 10 60 (s_ldA 0 (s_ic 27 (s_call (FW_m_passes0 c_m_passes0) 2 (s_eq0
    (p_C 0 10 0 <| p_I 2 fun a2 => p_E fun s => K212 s a2)
    (s_ldA 0 (s_ldA 0 (s_getRc 10 2 43 0 (s_ic 2865 (s_ldA 0 (s_getI 10 25 (s_bin (fun x y => x + y) (s_iald 43 5665 (s_putI 10 60 (s_ldA 0 (s_dup (s_getI 10 25 (s_ic 1 (s_bin (fun x y => x + y) (s_putI 10 25 (p_C 0 10 0 <| p_I 2 fun a2 => p_E fun s => K212 s a2))))))))))))))))))))))))))
set_option maxRecDepth 20000 in
theorem e_m_goesAlong_b104 (K125 : Sg → Int32 → Int32 → Int32 → Option Sg) (K212 : Sg → Int32 → Option Sg) (c_m_passes0 : Sg → Int32 → Option (Sg × Int32)) (s : Sg) (l2 : Int32) (l3 : Int32) (l4 : Int32) : m_goesAlong_b104_G K125 K212 c_m_passes0 s l2 l3 l4 = t_m_goesAlong_b104 K125 K212 c_m_passes0 [some (.inr (.inr (some (10, 0)))), none, some (.inl l2), some (.inl l3), some (.inl l4)] [] s := rfl
noncomputable def m_goesAlong_b30_G (K104 : Sg → Int32 → Int32 → Int32 → Option Sg) (c_m_codeAt : Sg → Int32 → Option (Sg × Int32)) (s : Sg) (l1 : Int32) (l2 : Int32) (y1 : Int32) : Option Sg :=
  let s1 := wI s 10 0 31 y1
  let s2 := wI s1 10 0 26 l1
  let s3 := wI s2 10 0 25 (rI s2 10 0 59)
  (c_m_codeAt s3 (rI s3 10 0 25)).bind fun q4 => (
  let s5 := wI q4.1 10 0 61 q4.2
  let s6 := wI s5 10 0 25 ((rI s5 10 0 25) + 1)
  gd (isB 1) (
  let s7 := wI s6 10 0 62 1
  gif (((rI s7 10 0 61) : Int32) = 26) (
    K104 s7 l2 0 0)
  (
    gif (((rI s7 10 0 61) : Int32) = 24) (
      K104 s7 l2 2 0)
    (
      K104 s7 l2 1 0))))
noncomputable def m_goesAlong_b30 : Sg → Int32 → Int32 → Int32 → Option Sg := m_goesAlong_b30_G (m_goesAlong_b104 FU) m_codeAt
noncomputable def t_m_goesAlong_b30 (K104 : Sg → Int32 → Int32 → Int32 → Option Sg) (c_m_codeAt : Sg → Int32 → Option (Sg × Int32)) : Bk Sg := (s_putI 10 31 (s_ldA 0 (s_ldI 1 (s_putI 10 26 (s_ldA 0 (s_ldA 0 (s_getI 10 59 (s_putI 10 25 (s_ldA 0 (s_ldA 0 (s_ldA 0 (s_getI 10 25 (s_call (FW_m_codeAt c_m_codeAt) 2 (s_putI 10 61 (s_ldA 0 (s_dup (s_getI 10 25 (s_ic 1 (s_bin (fun x y => x + y) (s_putI 10 25 (s_ldA 0 (s_ic 1 (s_putZ 10 62 (s_ldA 0 (s_getI 10 61 (s_ic 26 (s_ceq
  (s_ic 0 (s_goto (s_stI 3 (s_ic 0 (s_stI 4 (p_C 0 10 0 <| p_I 2 fun a2 => p_I 3 fun a3 => p_I 4 fun a4 => p_E fun s => K104 s a2 a3 a4))))))
  (s_ldA 0 (s_getI 10 61 (s_ic 24 (s_ceq
    (s_ic 2 (s_goto (s_stI 3 (s_ic 0 (s_stI 4 (p_C 0 10 0 <| p_I 2 fun a2 => p_I 3 fun a3 => p_I 4 fun a4 => p_E fun s => K104 s a2 a3 a4))))))
    (s_ic 1 (s_stI 3 (s_ic 0 (s_stI 4 (p_C 0 10 0 <| p_I 2 fun a2 => p_I 3 fun a3 => p_I 4 fun a4 => p_E fun s => K104 s a2 a3 a4))))))))))))))))))))))))))))))))))))
set_option maxRecDepth 20000 in
theorem e_m_goesAlong_b30 (K104 : Sg → Int32 → Int32 → Int32 → Option Sg) (c_m_codeAt : Sg → Int32 → Option (Sg × Int32)) (s : Sg) (l1 : Int32) (l2 : Int32) (y1 : Int32) : m_goesAlong_b30_G K104 c_m_codeAt s l1 l2 y1 = t_m_goesAlong_b30 K104 c_m_codeAt [some (.inr (.inr (some (10, 0)))), some (.inl l1), some (.inl l2), none, none] [.inl y1, .inr (.inr (some (10, 0)))] s := rfl
noncomputable def m_goesAlong_G (K30 : Sg → Int32 → Int32 → Int32 → Option Sg) (c_m_allOf : Sg → Int32 → Option (Sg × Int32)) (c_m_settingLines : Sg → Option (Sg × Int32)) (s : Sg) (l1 : Int32) (l2 : Int32) : Option Sg :=
  gif ((l2 : Int32) = 0) (
    let s1 := wI s 10 0 32 0
    gif ((l2 : Int32) = 0) (
      K30 s1 l1 l2 0)
    (
      (c_m_settingLines s1).bind fun q2 => (
      K30 q2.1 l1 l2 q2.2)))
  (
    (c_m_allOf s 2).bind fun q3 => (
    let s4 := wI q3.1 10 0 32 q3.2
    gif ((l2 : Int32) = 0) (
      K30 s4 l1 l2 0)
    (
      (c_m_settingLines s4).bind fun q5 => (
      K30 q5.1 l1 l2 q5.2))))
noncomputable def m_goesAlong : Sg → Int32 → Int32 → Option Sg := m_goesAlong_G (m_goesAlong_b30) m_allOf m_settingLines
noncomputable def t_m_goesAlong (K30 : Sg → Int32 → Int32 → Int32 → Option Sg) (c_m_allOf : Sg → Int32 → Option (Sg × Int32)) (c_m_settingLines : Sg → Option (Sg × Int32)) : Bk Sg := (s_ldA 0 (s_ldI 2 (s_eq0
  (s_ic 0 (s_putI 10 32 (s_ldA 0 (s_ldI 2 (s_eq0
    (s_ic 0 (p_C 0 10 0 <| p_I 1 fun a1 => p_I 2 fun a2 => q_I fun b1 => q_C 10 0 <| p_E fun s => K30 s a1 a2 b1))
    (s_ldA 0 (s_call (FW_m_settingLines c_m_settingLines) 1 (s_goto (p_C 0 10 0 <| p_I 1 fun a1 => p_I 2 fun a2 => q_I fun b1 => q_C 10 0 <| p_E fun s => K30 s a1 a2 b1)))))))))
  (s_ldA 0 (s_ic 2 (s_call (FW_m_allOf c_m_allOf) 2 (s_goto (s_putI 10 32 (s_ldA 0 (s_ldI 2 (s_eq0
    (s_ic 0 (p_C 0 10 0 <| p_I 1 fun a1 => p_I 2 fun a2 => q_I fun b1 => q_C 10 0 <| p_E fun s => K30 s a1 a2 b1))
    (s_ldA 0 (s_call (FW_m_settingLines c_m_settingLines) 1 (s_goto (p_C 0 10 0 <| p_I 1 fun a1 => p_I 2 fun a2 => q_I fun b1 => q_C 10 0 <| p_E fun s => K30 s a1 a2 b1)))))))))))))))
set_option maxRecDepth 20000 in
theorem e_m_goesAlong (K30 : Sg → Int32 → Int32 → Int32 → Option Sg) (c_m_allOf : Sg → Int32 → Option (Sg × Int32)) (c_m_settingLines : Sg → Option (Sg × Int32)) (s : Sg) (l1 : Int32) (l2 : Int32) : m_goesAlong_G K30 c_m_allOf c_m_settingLines s l1 l2 = t_m_goesAlong K30 c_m_allOf c_m_settingLines [some (.inr (.inr (some (10, 0)))), some (.inl l1), some (.inl l2), none, none] [] s := rfl
noncomputable def m_small_G (s : Sg) (l0 : Int64) : Option (Sg × Int32) :=
  gif (((lg_cmp l0 0) : Int32) < 0) (
    some (s, (-1)))
  (
    gif ((0 : Int32) < (lg_cmp l0 1000000)) (
      some (s, (-1)))
    (
      some (s, (Int64.toInt32 l0))))
noncomputable def m_small : Sg → Int64 → Option (Sg × Int32) := m_small_G
noncomputable def t_m_small : Bk (Sg × Int32) := (s_ldL 0 (s_lc 0 (s_lcmp (s_lt0
  (s_ic (-1) (s_goto (s_iret retI)))
  (s_ldL 0 (s_lc 1000000 (s_lcmp (s_gt0
    (s_ic (-1) (s_goto (s_iret retI)))
    (s_ldL 0 (s_l2i (s_iret retI)))))))))))
set_option maxRecDepth 20000 in
theorem e_m_small (s : Sg) (l0 : Int64) : m_small_G s l0 = t_m_small [some (.inr (.inl l0)), none] [] s := rfl
noncomputable def m_obeys_G (c_m_small : Sg → Int64 → Option (Sg × Int32)) (c_m_splitsKept : Sg → Int32 → Option (Sg × Int32)) (c_m_swellsKept : Sg → Int32 → Int32 → Option (Sg × Int32)) (c_m_passesKept : Sg → Option (Sg × Int32)) (c_m_stopsKept : Sg → Int32 → Option (Sg × Int32)) (s : Sg) : Option (Sg × Int32) :=
  gd (inb 0 2) (
  (c_m_small s (rL s 72 0 (ix 0))).bind fun q1 => (
  gif (((rI q1.1 10 0 61) : Int32) = 23) (
    (c_m_splitsKept q1.1 q1.2).bind fun q2 => (
    some (q2.1, q2.2)))
  (
  gif (((rI q1.1 10 0 61) : Int32) = 24) (
    gd (inb 1 2) (
    (c_m_small q1.1 (rL q1.1 72 0 (ix 1))).bind fun q3 => (
    (c_m_swellsKept q3.1 q1.2 q3.2).bind fun q4 => (
    some (q4.1, q4.2)))))
  (
  gif (((rI q1.1 10 0 61) : Int32) = 25) (
    (c_m_stopsKept q1.1 q1.2).bind fun q5 => (
    some (q5.1, q5.2)))
  (
  gif (((rI q1.1 10 0 61) : Int32) = 26) (
    (c_m_passesKept q1.1).bind fun q6 => (
    gif ((q6.2 : Int32) < 0) (
      let s7 := wI q6.1 10 0 30 (rI q6.1 10 0 30)
      some (s7, q6.2))
    (
      let s8 := wI q6.1 10 0 30 q6.2
      some (s8, q6.2))))
  (
    (c_m_stopsKept q1.1 q1.2).bind fun q9 => (
    some (q9.1, q9.2))))))))
noncomputable def m_obeys : Sg → Option (Sg × Int32) := m_obeys_G m_small m_splitsKept m_swellsKept m_passesKept m_stopsKept
noncomputable def t_m_obeys (c_m_small : Sg → Int64 → Option (Sg × Int32)) (c_m_splitsKept : Sg → Int32 → Option (Sg × Int32)) (c_m_swellsKept : Sg → Int32 → Int32 → Option (Sg × Int32)) (c_m_passesKept : Sg → Option (Sg × Int32)) (c_m_stopsKept : Sg → Int32 → Option (Sg × Int32)) : Bk (Sg × Int32) := (s_ldA 0 (s_getRc 10 64 72 0 (s_ic 0 (s_lald 72 2 (s_call (FW_m_small c_m_small) 1 (s_stI 1 (s_ldA 0 (s_getI 10 61 (s_sw [(23, (s_ldA 0 (s_ldI 1 (s_call (FW_m_splitsKept c_m_splitsKept) 2 (s_iret retI))))),
  (24, (s_ldA 0 (s_ldI 1 (s_ldA 0 (s_getRc 10 64 72 0 (s_ic 1 (s_lald 72 2 (s_call (FW_m_small c_m_small) 1 (s_call (FW_m_swellsKept c_m_swellsKept) 3 (s_iret retI)))))))))),
  (25, (s_ldA 0 (s_ldI 1 (s_call (FW_m_stopsKept c_m_stopsKept) 2 (s_iret retI))))),
  (26, (s_ldA 0 (s_call (FW_m_passesKept c_m_passesKept) 1 (s_stI 2 (s_ldA 0 (s_ldI 2 (s_lt0
    (s_ldA 0 (s_getI 10 30 (s_goto (s_putI 10 30 (s_ldI 2 (s_iret retI))))))
    (s_ldI 2 (s_putI 10 30 (s_ldI 2 (s_iret retI)))))))))))]
  (s_ldA 0 (s_ldI 1 (s_call (FW_m_stopsKept c_m_stopsKept) 2 (s_iret retI)))))))))))))
set_option maxRecDepth 20000 in
theorem e_m_obeys (c_m_small : Sg → Int64 → Option (Sg × Int32)) (c_m_splitsKept : Sg → Int32 → Option (Sg × Int32)) (c_m_swellsKept : Sg → Int32 → Int32 → Option (Sg × Int32)) (c_m_passesKept : Sg → Option (Sg × Int32)) (c_m_stopsKept : Sg → Int32 → Option (Sg × Int32)) (s : Sg) : m_obeys_G c_m_small c_m_splitsKept c_m_swellsKept c_m_passesKept c_m_stopsKept s = t_m_obeys c_m_small c_m_splitsKept c_m_swellsKept c_m_passesKept c_m_stopsKept [some (.inr (.inr (some (10, 0)))), none, none] [] s := rfl
noncomputable def m_runs_b19_G (K19 : Sg → Int32 → Int32 → Int32 → Int32 → Option (Sg × Int32)) (c_m_goesAlong : Sg → Int32 → Int32 → Option Sg) (c_m_obeys : Sg → Option (Sg × Int32)) (s : Sg) (l1 : Int32) (l2 : Int32) (l3 : Int32) (l4 : Int32) : Option (Sg × Int32) :=
  gif ((l4 : Int32) < l2) (
    (c_m_goesAlong s l1 1).bind fun s1 => (
    gif (((rI s1 10 0 63) : Int32) = 0) (
      K19 s1 l1 l2 l3 (l4 + 1))
    (
      gif (((rI s1 10 0 62) : Int32) = 0) (
        gd (isB 0) (some (s1, 0)))
      (
        (c_m_obeys s1).bind fun q2 => (
        gif ((q2.2 : Int32) < 0) (
          gd (isB 0) (some (q2.1, 0)))
        (
          let s3 := wI q2.1 10 0 29 ((rI q2.1 10 0 29) + 1)
          K19 s3 l1 l2 l3 (l4 + 1)))))))
  (
    let s4 := wI s 10 0 59 l3
    gd (isB 1) (some (s4, 1)))
noncomputable def m_runs_b19 : Nat → Sg → Int32 → Int32 → Int32 → Int32 → Option (Sg × Int32)
  | 0 => fun _ _ _ _ _ => none
  | n + 1 => m_runs_b19_G (m_runs_b19 n) m_goesAlong m_obeys
noncomputable def t_m_runs_b19 (K19 : Sg → Int32 → Int32 → Int32 → Int32 → Option (Sg × Int32)) (c_m_goesAlong : Sg → Int32 → Int32 → Option Sg) (c_m_obeys : Sg → Option (Sg × Int32)) : Bk (Sg × Int32) := (s_ldI 4 (s_ldI 2 (s_clt
  (s_ldA 0 (s_ldI 1 (s_ic 1 (s_call (FW_m_goesAlong c_m_goesAlong) 3 (s_ldA 0 (s_getI 10 63 (s_eq0
    (s_goto (s_inc 4 1 (s_goto (p_C 0 10 0 <| p_I 1 fun a1 => p_I 2 fun a2 => p_I 3 fun a3 => p_I 4 fun a4 => p_E fun s => K19 s a1 a2 a3 a4))))
    (s_ldA 0 (s_getI 10 62 (s_eq0
      (s_ic 0 (s_zret retI))
      (s_ldA 0 (s_call (FW_m_obeys c_m_obeys) 1 (s_lt0
        (s_ic 0 (s_zret retI))
        (s_ldA 0 (s_dup (s_getI 10 29 (s_ic 1 (s_bin (fun x y => x + y) (s_putI 10 29 (s_inc 4 1 (s_goto (p_C 0 10 0 <| p_I 1 fun a1 => p_I 2 fun a2 => p_I 3 fun a3 => p_I 4 fun a4 => p_E fun s => K19 s a1 a2 a3 a4))))))))))))))))))))))
  (s_ldA 0 (s_ldI 3 (s_putI 10 59 (s_ic 1 (s_zret retI))))))))
set_option maxRecDepth 20000 in
theorem e_m_runs_b19 (K19 : Sg → Int32 → Int32 → Int32 → Int32 → Option (Sg × Int32)) (c_m_goesAlong : Sg → Int32 → Int32 → Option Sg) (c_m_obeys : Sg → Option (Sg × Int32)) (s : Sg) (l1 : Int32) (l2 : Int32) (l3 : Int32) (l4 : Int32) : m_runs_b19_G K19 c_m_goesAlong c_m_obeys s l1 l2 l3 l4 = t_m_runs_b19 K19 c_m_goesAlong c_m_obeys [some (.inr (.inr (some (10, 0)))), some (.inl l1), some (.inl l2), some (.inl l3), some (.inl l4)] [] s := rfl
noncomputable def m_runs_G (K19 : Sg → Int32 → Int32 → Int32 → Int32 → Option (Sg × Int32)) (c_m_goesAlong : Sg → Int32 → Int32 → Option Sg) (s : Sg) (l1 : Int32) : Option (Sg × Int32) :=
  (c_m_goesAlong s l1 0).bind fun s1 => (
  K19 s1 l1 (rI s1 10 0 60) (rI s1 10 0 25) 0)
noncomputable def m_runs : Sg → Int32 → Option (Sg × Int32) := m_runs_G (m_runs_b19 FU) m_goesAlong
noncomputable def t_m_runs (K19 : Sg → Int32 → Int32 → Int32 → Int32 → Option (Sg × Int32)) (c_m_goesAlong : Sg → Int32 → Int32 → Option Sg) : Bk (Sg × Int32) := (s_ldA 0 (s_ldI 1 (s_ic 0 (s_call (FW_m_goesAlong c_m_goesAlong) 3 (s_ldA 0 (s_getI 10 60 (s_stI 2 (s_ldA 0 (s_getI 10 25 (s_stI 3 (s_ic 0 (s_stI 4 (p_C 0 10 0 <| p_I 1 fun a1 => p_I 2 fun a2 => p_I 3 fun a3 => p_I 4 fun a4 => p_E fun s => K19 s a1 a2 a3 a4)))))))))))))
set_option maxRecDepth 20000 in
theorem e_m_runs (K19 : Sg → Int32 → Int32 → Int32 → Int32 → Option (Sg × Int32)) (c_m_goesAlong : Sg → Int32 → Int32 → Option Sg) (s : Sg) (l1 : Int32) : m_runs_G K19 c_m_goesAlong s l1 = t_m_runs K19 c_m_goesAlong [some (.inr (.inr (some (10, 0)))), some (.inl l1), none, none, none] [] s := rfl
