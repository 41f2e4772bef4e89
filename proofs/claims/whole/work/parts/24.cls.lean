noncomputable def x6_readText_b45_G (K45 : Sg → Int32 → Option Sg) (c_x6_readClause : Sg → Int32 → Option (Sg × Int32)) (c_x6_sign : Sg → Option (Sg × Int32)) (c_x6_takeOrFail : Sg → Int32 → Option (Sg × Int32)) (s : Sg) (l4 : Int32) : Option Sg :=
  gif ((12 : Int32) < l4) (
    some s)
  (
    (c_x6_readClause s l4).bind fun q1 => (
    gif ((q1.2 : Int32) = 0) (
      some q1.1)
    (
      (c_x6_sign q1.1).bind fun q2 => (
      gif ((q2.2 : Int32) = 4000) (
        some q2.1)
      (
        (c_x6_takeOrFail q2.1 2059).bind fun q3 => (
        gif ((q3.2 : Int32) = 0) (
          some q3.1)
        (
          K45 q3.1 (l4 + 1))))))))
noncomputable def x6_readText_b45 : Nat → Sg → Int32 → Option Sg
  | 0 => fun _ _ => none
  | n + 1 => x6_readText_b45_G (x6_readText_b45 n) x6_readClause x6_sign x6_takeOrFail
noncomputable def t_x6_readText_b45 (K45 : Sg → Int32 → Option Sg) (c_x6_readClause : Sg → Int32 → Option (Sg × Int32)) (c_x6_sign : Sg → Option (Sg × Int32)) (c_x6_takeOrFail : Sg → Int32 → Option (Sg × Int32)) : Bk Sg := (s_ldI 4 (s_ic 12 (s_cgt
  (s_vret retV)
  (s_ldA 0 (s_ldI 4 (s_call (FW_x6_readClause c_x6_readClause) 2 (s_eq0
    (s_vret retV)
    (s_ldA 0 (s_call (FW_x6_sign c_x6_sign) 1 (s_ic 4000 (s_ceq
      (s_vret retV)
      (s_ldA 0 (s_ic 2059 (s_call (FW_x6_takeOrFail c_x6_takeOrFail) 2 (s_eq0
        (s_vret retV)
        (s_inc 4 1 (s_goto (p_C 0 6 0 <| p_I 4 fun a4 => p_E fun s => K45 s a4))))))))))))))))))
set_option maxRecDepth 20000 in
theorem e_x6_readText_b45 (K45 : Sg → Int32 → Option Sg) (c_x6_readClause : Sg → Int32 → Option (Sg × Int32)) (c_x6_sign : Sg → Option (Sg × Int32)) (c_x6_takeOrFail : Sg → Int32 → Option (Sg × Int32)) (s : Sg) (l4 : Int32) : x6_readText_b45_G K45 c_x6_readClause c_x6_sign c_x6_takeOrFail s l4 = t_x6_readText_b45 K45 c_x6_readClause c_x6_sign c_x6_takeOrFail [some (.inr (.inr (some (6, 0)))), none, none, none, some (.inl l4)] [] s := rfl
noncomputable def x6_readText_G (K45 : Sg → Int32 → Option Sg) (c_x8_clear : Sg → Nat → Option Sg) (c_x6_cut : Sg → Int32 → Option Sg) (s : Sg) (l2 : Int32) (l3 : Int32) : Option Sg :=
  gd (isB l3) (
  let s1 := wI s 6 0 5 l3
  let s2 := wI s1 6 0 3 0
  let s3 := wI s2 6 0 4 0
  let s4 := wI s3 6 0 6 (-1)
  (c_x8_clear s4 0).bind fun s5 => (
  (c_x6_cut s5 (g_max 0 (g_min l2 (Int32.ofNat 400)))).bind fun s6 => (
  K45 s6 0)))
noncomputable def x6_readText : Sg → Int32 → Int32 → Option Sg := x6_readText_G (x6_readText_b45 FU) x8_clear x6_cut
noncomputable def t_x6_readText (K45 : Sg → Int32 → Option Sg) (c_x8_clear : Sg → Nat → Option Sg) (c_x6_cut : Sg → Int32 → Option Sg) : Bk Sg := (s_ldA 0 (s_ldI 3 (s_putZ 6 5 (s_ldA 0 (s_ic 0 (s_putI 6 3 (s_ldA 0 (s_ic 0 (s_putI 6 4 (s_ldA 0 (s_ic (-1) (s_putI 6 6 (s_ldA 0 (s_getRc 6 0 8 0 (s_call (FW_x8_clear c_x8_clear) 1 (s_ldA 0 (s_ldA 1 (s_ic 0 (s_ldI 2 (s_ldA 1 (s_alen 39 400 (s_m2 g_min (s_m2 g_max (s_call (FW_x6_cut c_x6_cut) 3 (s_ic 0 (s_stI 4 (p_C 0 6 0 <| p_I 4 fun a4 => p_E fun s => K45 s a4)))))))))))))))))))))))))))
set_option maxRecDepth 20000 in
theorem e_x6_readText (K45 : Sg → Int32 → Option Sg) (c_x8_clear : Sg → Nat → Option Sg) (c_x6_cut : Sg → Int32 → Option Sg) (s : Sg) (l2 : Int32) (l3 : Int32) : x6_readText_G K45 c_x8_clear c_x6_cut s l2 l3 = t_x6_readText K45 c_x8_clear c_x6_cut [some (.inr (.inr (some (6, 0)))), some (.inr (.inr (some (39, 0)))), some (.inl l2), some (.inl l3), none] [] s := rfl
noncomputable def x7_howManyFit_G (c_x7_readSetting : Sg → Nat → Option Sg) (c_x7_together : Sg → Int32 → Option (Sg × Int32)) (s : Sg) (g1 : Nat) : Option (Sg × Int32) :=
  (c_x7_readSetting s g1).bind fun s1 => (
  (c_x7_together s1 6).bind fun q2 => (
  some (q2.1, q2.2)))
noncomputable def x7_howManyFit : Sg → Nat → Option (Sg × Int32) := x7_howManyFit_G x7_readSetting x7_together
noncomputable def t_x7_howManyFit (c_x7_readSetting : Sg → Nat → Option Sg) (c_x7_together : Sg → Int32 → Option (Sg × Int32)) : Bk (Sg × Int32) := (s_ldA 0 (s_ldA 1 (s_call (FW_x7_readSetting c_x7_readSetting) 2 (s_ldA 0 (s_ic 6 (s_call (FW_x7_together c_x7_together) 2 (s_iret retI)))))))
set_option maxRecDepth 20000 in
theorem e_x7_howManyFit (c_x7_readSetting : Sg → Nat → Option Sg) (c_x7_together : Sg → Int32 → Option (Sg × Int32)) (s : Sg) (g1 : Nat) : x7_howManyFit_G c_x7_readSetting c_x7_together s g1 = t_x7_howManyFit c_x7_readSetting c_x7_together [some (.inr (.inr (some (7, 0)))), some (.inr (.inr (some (1, g1))))] [] s := rfl
noncomputable def x7_tellFact_G (c_x7_tellOf : Sg → Int32 → Int32 → Option (Sg × Int32)) (s : Sg) (l1 : Int32) (l2 : Int32) : Option (Sg × Int32) :=
  gif ((l1 : Int32) < 0) (
    some (s, (-1)))
  (
    gif ((l1 : Int32) < (Int32.ofNat 4)) (
      gd (inb l1 4) (
      (c_x7_tellOf s (rI s 78 0 (ix l1)) l2).bind fun q1 => (
      some (q1.1, q1.2))))
    (
      some (s, (-1))))
noncomputable def x7_tellFact : Sg → Int32 → Int32 → Option (Sg × Int32) := x7_tellFact_G x7_tellOf
noncomputable def t_x7_tellFact (c_x7_tellOf : Sg → Int32 → Int32 → Option (Sg × Int32)) : Bk (Sg × Int32) := (s_ldI 1 (s_lt0
  (s_ic (-1) (s_iret retI))
  (s_ldI 1 (s_ref 78 7 (s_alen 78 4 (s_clt
    (s_ldA 0 (s_ref 78 7 (s_ldI 1 (s_iald 78 4 (s_ldI 2 (s_call (FW_x7_tellOf c_x7_tellOf) 3 (s_goto (s_iret retI))))))))
    (s_ic (-1) (s_iret retI))))))))
set_option maxRecDepth 20000 in
theorem e_x7_tellFact (c_x7_tellOf : Sg → Int32 → Int32 → Option (Sg × Int32)) (s : Sg) (l1 : Int32) (l2 : Int32) : x7_tellFact_G c_x7_tellOf s l1 l2 = t_x7_tellFact c_x7_tellOf [some (.inr (.inr (some (7, 0)))), some (.inl l1), some (.inl l2)] [] s := rfl
noncomputable def x7_isAsSeen_b2_G (K2 : Sg → Nat → Int32 → Int32 → Option (Sg × Int32)) (c_x7_tellFact : Sg → Int32 → Int32 → Option (Sg × Int32)) (s : Sg) (g1 : Nat) (l2 : Int32) (l3 : Int32) : Option (Sg × Int32) :=
  gif ((l3 : Int32) < (rI s 1 g1 10)) (
    gif ((l3 : Int32) < 6) (
      gd (inb l3 6) (
      (c_x7_tellFact s (rI s 16 g1 (ix l3)) l2).bind fun q1 => (
      gd (inb l3 6) (
      gif ((q1.2 : Int32) = (rI q1.1 17 g1 (ix l3))) (
        K2 q1.1 g1 l2 (l3 + 1))
      (
        gd (isB 0) (some (q1.1, 0)))))))
    (
      gd (isB 1) (some (s, 1))))
  (
    gd (isB 1) (some (s, 1)))
noncomputable def x7_isAsSeen_b2 : Nat → Sg → Nat → Int32 → Int32 → Option (Sg × Int32)
  | 0 => fun _ _ _ _ => none
  | n + 1 => x7_isAsSeen_b2_G (x7_isAsSeen_b2 n) x7_tellFact
noncomputable def t_x7_isAsSeen_b2 (K2 : Sg → Nat → Int32 → Int32 → Option (Sg × Int32)) (c_x7_tellFact : Sg → Int32 → Int32 → Option (Sg × Int32)) : Bk (Sg × Int32) := (s_ldI 3 (s_ldA 1 (s_getI 1 10 (s_clt
  (s_ldI 3 (s_ic 6 (s_clt
    (s_ldA 0 (s_ldA 1 (s_getRv 1 4 16 (s_ldI 3 (s_iald 16 6 (s_ldI 2 (s_call (FW_x7_tellFact c_x7_tellFact) 3 (s_ldA 1 (s_getRv 1 5 17 (s_ldI 3 (s_iald 17 6 (s_ceq
      (s_inc 3 1 (s_goto (p_C 0 7 0 <| p_R 1 1 fun a1 => p_I 2 fun a2 => p_I 3 fun a3 => p_E fun s => K2 s a1 a2 a3)))
      (s_ic 0 (s_zret retI))))))))))))))
    (s_ic 1 (s_zret retI)))))
  (s_ic 1 (s_zret retI))))))
set_option maxRecDepth 20000 in
theorem e_x7_isAsSeen_b2 (K2 : Sg → Nat → Int32 → Int32 → Option (Sg × Int32)) (c_x7_tellFact : Sg → Int32 → Int32 → Option (Sg × Int32)) (s : Sg) (g1 : Nat) (l2 : Int32) (l3 : Int32) : x7_isAsSeen_b2_G K2 c_x7_tellFact s g1 l2 l3 = t_x7_isAsSeen_b2 K2 c_x7_tellFact [some (.inr (.inr (some (7, 0)))), some (.inr (.inr (some (1, g1)))), some (.inl l2), some (.inl l3)] [] s := rfl
noncomputable def x7_isAsSeen_G (K2 : Sg → Nat → Int32 → Int32 → Option (Sg × Int32)) (s : Sg) (g1 : Nat) (l2 : Int32) : Option (Sg × Int32) :=
  K2 s g1 l2 0
noncomputable def x7_isAsSeen : Sg → Nat → Int32 → Option (Sg × Int32) := x7_isAsSeen_G (x7_isAsSeen_b2 FU)
noncomputable def t_x7_isAsSeen (K2 : Sg → Nat → Int32 → Int32 → Option (Sg × Int32)) : Bk (Sg × Int32) := (s_ic 0 (s_stI 3 (p_C 0 7 0 <| p_R 1 1 fun a1 => p_I 2 fun a2 => p_I 3 fun a3 => p_E fun s => K2 s a1 a2 a3)))
set_option maxRecDepth 20000 in
theorem e_x7_isAsSeen (K2 : Sg → Nat → Int32 → Int32 → Option (Sg × Int32)) (s : Sg) (g1 : Nat) (l2 : Int32) : x7_isAsSeen_G K2 s g1 l2 = t_x7_isAsSeen K2 [some (.inr (.inr (some (7, 0)))), some (.inr (.inr (some (1, g1)))), some (.inl l2), none] [] s := rfl
noncomputable def x7_linesAsSeen_b4_G (K4 : Sg → Nat → Int32 → Int32 → Option (Sg × Int32)) (c_x7_isAsSeen : Sg → Nat → Int32 → Option (Sg × Int32)) (s : Sg) (g1 : Nat) (l2 : Int32) (l3 : Int32) : Option (Sg × Int32) :=
  gif ((l3 : Int32) < (rI s 7 0 4)) (
    (c_x7_isAsSeen s g1 l3).bind fun q1 => (
    gif ((q1.2 : Int32) = 0) (
      K4 q1.1 g1 l2 (l3 + 1))
    (
      K4 q1.1 g1 (l2 ||| (1 <<< (l3 &&& 31))) (l3 + 1))))
  (
    some (s, l2))
noncomputable def x7_linesAsSeen_b4 : Nat → Sg → Nat → Int32 → Int32 → Option (Sg × Int32)
  | 0 => fun _ _ _ _ => none
  | n + 1 => x7_linesAsSeen_b4_G (x7_linesAsSeen_b4 n) x7_isAsSeen
noncomputable def t_x7_linesAsSeen_b4 (K4 : Sg → Nat → Int32 → Int32 → Option (Sg × Int32)) (c_x7_isAsSeen : Sg → Nat → Int32 → Option (Sg × Int32)) : Bk (Sg × Int32) := (s_ldI 3 (s_ldA 0 (s_getI 7 4 (s_clt
  (s_ldA 0 (s_ldA 1 (s_ldI 3 (s_call (FW_x7_isAsSeen c_x7_isAsSeen) 3 (s_eq0
    (s_inc 3 1 (s_goto (p_C 0 7 0 <| p_R 1 1 fun a1 => p_I 2 fun a2 => p_I 3 fun a3 => p_E fun s => K4 s a1 a2 a3)))
    (s_ldI 2 (s_ic 1 (s_ldI 3 (s_bin (fun x y => x <<< (y &&& 31)) (s_bin (fun x y => x ||| y) (s_stI 2 (s_inc 3 1 (s_goto (p_C 0 7 0 <| p_R 1 1 fun a1 => p_I 2 fun a2 => p_I 3 fun a3 => p_E fun s => K4 s a1 a2 a3))))))))))))))
  (s_ldI 2 (s_iret retI))))))
set_option maxRecDepth 20000 in
theorem e_x7_linesAsSeen_b4 (K4 : Sg → Nat → Int32 → Int32 → Option (Sg × Int32)) (c_x7_isAsSeen : Sg → Nat → Int32 → Option (Sg × Int32)) (s : Sg) (g1 : Nat) (l2 : Int32) (l3 : Int32) : x7_linesAsSeen_b4_G K4 c_x7_isAsSeen s g1 l2 l3 = t_x7_linesAsSeen_b4 K4 c_x7_isAsSeen [some (.inr (.inr (some (7, 0)))), some (.inr (.inr (some (1, g1)))), some (.inl l2), some (.inl l3)] [] s := rfl
noncomputable def x7_linesAsSeen_G (K4 : Sg → Nat → Int32 → Int32 → Option (Sg × Int32)) (s : Sg) (g1 : Nat) : Option (Sg × Int32) :=
  K4 s g1 0 0
noncomputable def x7_linesAsSeen : Sg → Nat → Option (Sg × Int32) := x7_linesAsSeen_G (x7_linesAsSeen_b4 FU)
noncomputable def t_x7_linesAsSeen (K4 : Sg → Nat → Int32 → Int32 → Option (Sg × Int32)) : Bk (Sg × Int32) := (s_ic 0 (s_stI 2 (s_ic 0 (s_stI 3 (p_C 0 7 0 <| p_R 1 1 fun a1 => p_I 2 fun a2 => p_I 3 fun a3 => p_E fun s => K4 s a1 a2 a3)))))
set_option maxRecDepth 20000 in
theorem e_x7_linesAsSeen (K4 : Sg → Nat → Int32 → Int32 → Option (Sg × Int32)) (s : Sg) (g1 : Nat) : x7_linesAsSeen_G K4 s g1 = t_x7_linesAsSeen K4 [some (.inr (.inr (some (7, 0)))), some (.inr (.inr (some (1, g1)))), none, none] [] s := rfl
noncomputable def x7_mostAlike_b20_G (K5 : Sg → Int32 → Int32 → Int32 → Int32 → Option (Sg × Int32)) (K20 : Sg → Int32 → Int32 → Int32 → Int32 → Int32 → Int32 → Option (Sg × Int32)) (c_x7_tellFact : Sg → Int32 → Int32 → Option (Sg × Int32)) (s : Sg) (l1 : Int32) (l2 : Int32) (l3 : Int32) (l4 : Int32) (l5 : Int32) (l6 : Int32) : Option (Sg × Int32) :=
  gif ((l6 : Int32) < (rI s 7 0 4)) (
    gif ((((l1 >>> (l6 &&& 31)) &&& 1) : Int32) = 1) (
      (c_x7_tellFact s l2 l6).bind fun q1 => (
      (c_x7_tellFact q1.1 l2 l4).bind fun q2 => (
      gif ((q1.2 : Int32) = q2.2) (
        K20 q2.1 l1 l2 l3 l4 (l5 + 1) (l6 + 1))
      (
        K20 q2.1 l1 l2 l3 l4 l5 (l6 + 1)))))
    (
      K20 s l1 l2 l3 l4 l5 (l6 + 1)))
  (
    gif ((((l1 >>> (l4 &&& 31)) &&& 1) : Int32) = 1) (
      K5 s l1 l2 (g_max l3 l5) (l4 + 1))
    (
      K5 s l1 l2 l3 (l4 + 1)))
noncomputable def x7_mostAlike_b20 (K5 : Sg → Int32 → Int32 → Int32 → Int32 → Option (Sg × Int32)) : Nat → Sg → Int32 → Int32 → Int32 → Int32 → Int32 → Int32 → Option (Sg × Int32)
  | 0 => fun _ _ _ _ _ _ _ => none
  | n + 1 => x7_mostAlike_b20_G K5 (x7_mostAlike_b20 K5 n) x7_tellFact
noncomputable def t_x7_mostAlike_b20 (K5 : Sg → Int32 → Int32 → Int32 → Int32 → Option (Sg × Int32)) (K20 : Sg → Int32 → Int32 → Int32 → Int32 → Int32 → Int32 → Option (Sg × Int32)) (c_x7_tellFact : Sg → Int32 → Int32 → Option (Sg × Int32)) : Bk (Sg × Int32) := (s_ldI 6 (s_ldA 0 (s_getI 7 4 (s_clt
  (s_ldI 1 (s_ldI 6 (s_bin (fun x y => x >>> (y &&& 31)) (s_ic 1 (s_bin (fun x y => x &&& y) (s_ic 1 (s_ceq
    (s_ldA 0 (s_ldI 2 (s_ldI 6 (s_call (FW_x7_tellFact c_x7_tellFact) 3 (s_ldA 0 (s_ldI 2 (s_ldI 4 (s_call (FW_x7_tellFact c_x7_tellFact) 3 (s_ceq
      (s_inc 5 1 (s_inc 6 1 (s_goto (p_C 0 7 0 <| p_I 1 fun a1 => p_I 2 fun a2 => p_I 3 fun a3 => p_I 4 fun a4 => p_I 5 fun a5 => p_I 6 fun a6 => p_E fun s => K20 s a1 a2 a3 a4 a5 a6))))
      (s_inc 6 1 (s_goto (p_C 0 7 0 <| p_I 1 fun a1 => p_I 2 fun a2 => p_I 3 fun a3 => p_I 4 fun a4 => p_I 5 fun a5 => p_I 6 fun a6 => p_E fun s => K20 s a1 a2 a3 a4 a5 a6))))))))))))
    (s_inc 6 1 (s_goto (p_C 0 7 0 <| p_I 1 fun a1 => p_I 2 fun a2 => p_I 3 fun a3 => p_I 4 fun a4 => p_I 5 fun a5 => p_I 6 fun a6 => p_E fun s => K20 s a1 a2 a3 a4 a5 a6))))))))))
  (s_ldI 1 (s_ldI 4 (s_bin (fun x y => x >>> (y &&& 31)) (s_ic 1 (s_bin (fun x y => x &&& y) (s_ic 1 (s_ceq
    (s_ldI 3 (s_ldI 5 (s_m2 g_max (s_stI 3 (s_inc 4 1 (s_goto (p_C 0 7 0 <| p_I 1 fun a1 => p_I 2 fun a2 => p_I 3 fun a3 => p_I 4 fun a4 => p_E fun s => K5 s a1 a2 a3 a4)))))))
    (s_inc 4 1 (s_goto (p_C 0 7 0 <| p_I 1 fun a1 => p_I 2 fun a2 => p_I 3 fun a3 => p_I 4 fun a4 => p_E fun s => K5 s a1 a2 a3 a4))))))))))))))
set_option maxRecDepth 20000 in
theorem e_x7_mostAlike_b20 (K5 : Sg → Int32 → Int32 → Int32 → Int32 → Option (Sg × Int32)) (K20 : Sg → Int32 → Int32 → Int32 → Int32 → Int32 → Int32 → Option (Sg × Int32)) (c_x7_tellFact : Sg → Int32 → Int32 → Option (Sg × Int32)) (s : Sg) (l1 : Int32) (l2 : Int32) (l3 : Int32) (l4 : Int32) (l5 : Int32) (l6 : Int32) : x7_mostAlike_b20_G K5 K20 c_x7_tellFact s l1 l2 l3 l4 l5 l6 = t_x7_mostAlike_b20 K5 K20 c_x7_tellFact [some (.inr (.inr (some (7, 0)))), some (.inl l1), some (.inl l2), some (.inl l3), some (.inl l4), some (.inl l5), some (.inl l6)] [] s := rfl
noncomputable def x7_mostAlike_b5_G (K20 : Sg → Int32 → Int32 → Int32 → Int32 → Int32 → Int32 → Option (Sg × Int32)) (s : Sg) (l1 : Int32) (l2 : Int32) (l3 : Int32) (l4 : Int32) : Option (Sg × Int32) :=
  gif ((l4 : Int32) < (rI s 7 0 4)) (
    K20 s l1 l2 l3 l4 0 0)
  (
    some (s, l3))
noncomputable def x7_mostAlike_b5 : Nat → Sg → Int32 → Int32 → Int32 → Int32 → Option (Sg × Int32)
  | 0 => fun _ _ _ _ _ => none
  | n + 1 => x7_mostAlike_b5_G (x7_mostAlike_b20 (x7_mostAlike_b5 n) FU)
noncomputable def t_x7_mostAlike_b5 (K20 : Sg → Int32 → Int32 → Int32 → Int32 → Int32 → Int32 → Option (Sg × Int32)) : Bk (Sg × Int32) := (s_ldI 4 (s_ldA 0 (s_getI 7 4 (s_clt
  (s_ic 0 (s_stI 5 (s_ic 0 (s_stI 6 (p_C 0 7 0 <| p_I 1 fun a1 => p_I 2 fun a2 => p_I 3 fun a3 => p_I 4 fun a4 => p_I 5 fun a5 => p_I 6 fun a6 => p_E fun s => K20 s a1 a2 a3 a4 a5 a6)))))
  (s_ldI 3 (s_iret retI))))))
set_option maxRecDepth 20000 in
theorem e_x7_mostAlike_b5 (K20 : Sg → Int32 → Int32 → Int32 → Int32 → Int32 → Int32 → Option (Sg × Int32)) (s : Sg) (l1 : Int32) (l2 : Int32) (l3 : Int32) (l4 : Int32) : x7_mostAlike_b5_G K20 s l1 l2 l3 l4 = t_x7_mostAlike_b5 K20 [some (.inr (.inr (some (7, 0)))), some (.inl l1), some (.inl l2), some (.inl l3), some (.inl l4), none, none] [] s := rfl
noncomputable def x7_mostAlike_G (K5 : Sg → Int32 → Int32 → Int32 → Int32 → Option (Sg × Int32)) (s : Sg) (l1 : Int32) (l2 : Int32) : Option (Sg × Int32) :=
  K5 s l1 l2 0 0
noncomputable def x7_mostAlike : Sg → Int32 → Int32 → Option (Sg × Int32) := x7_mostAlike_G (x7_mostAlike_b5 FU)
noncomputable def t_x7_mostAlike (K5 : Sg → Int32 → Int32 → Int32 → Int32 → Option (Sg × Int32)) : Bk (Sg × Int32) := (s_ic 0 (s_stI 3 (s_ic 0 (s_stI 4 (p_C 0 7 0 <| p_I 1 fun a1 => p_I 2 fun a2 => p_I 3 fun a3 => p_I 4 fun a4 => p_E fun s => K5 s a1 a2 a3 a4)))))
set_option maxRecDepth 20000 in
theorem e_x7_mostAlike (K5 : Sg → Int32 → Int32 → Int32 → Int32 → Option (Sg × Int32)) (s : Sg) (l1 : Int32) (l2 : Int32) : x7_mostAlike_G K5 s l1 l2 = t_x7_mostAlike K5 [some (.inr (.inr (some (7, 0)))), some (.inl l1), some (.inl l2), none, none, none, none] [] s := rfl
noncomputable def x7_flowThrough_b21_G (K21 : Sg → Nat → Int32 → Int32 → Int32 → Int32 → Int32 → Option (Sg × Int32)) (c_x1_pieceOf : Sg → Nat → Int32 → Int32 → Int32 → Option (Sg × Int32)) (s : Sg) (g1 : Nat) (l2 : Int32) (l3 : Int32) (l4 : Int32) (l5 : Int32) (l6 : Int32) : Option (Sg × Int32) :=
  gd (¬ 2 = (0 : Int32)) (
  gif ((l6 : Int32) < (l3 / 2)) (
    (c_x1_pieceOf s g1 l6 l2 l3).bind fun q1 => (
    gif (((l5 + q1.2) : Int32) < 1) (
      K21 q1.1 g1 l2 l3 l4 ((l5 + q1.2) + 1) (l6 + 1))
    (
      gif ((((l5 + q1.2) + 1) : Int32) < (Int32.ofNat 256)) (
        gif (((l5 + q1.2) : Int32) < (Int32.ofNat 256)) (
          gd (inb (l5 + q1.2) 256) (
          gd (inb ((l5 + q1.2) - 1) 256) (
          gd (inb ((l5 + q1.2) + 1) 256) (
          gd (inb (l5 + q1.2) 256) (
          let s2 := wI q1.1 75 (rN q1.1 7 0 2) (ix (l5 + q1.2)) (1 + (g_max (rI q1.1 75 (rN q1.1 7 0 1) (ix (l5 + q1.2))) (g_max (rI q1.1 75 (rN q1.1 7 0 1) (ix ((l5 + q1.2) - 1))) (rI q1.1 75 (rN q1.1 7 0 1) (ix ((l5 + q1.2) + 1))))))
          gd (inb (l5 + q1.2) 256) (
          K21 s2 g1 l2 l3 (g_max l4 (rI s2 75 (rN s2 7 0 2) (ix (l5 + q1.2)))) ((l5 + q1.2) + 1) (l6 + 1)))))))
        (
          K21 q1.1 g1 l2 l3 l4 ((l5 + q1.2) + 1) (l6 + 1)))
      (
        K21 q1.1 g1 l2 l3 l4 ((l5 + q1.2) + 1) (l6 + 1)))))
  (
    some (s, l4)))
noncomputable def x7_flowThrough_b21 : Nat → Sg → Nat → Int32 → Int32 → Int32 → Int32 → Int32 → Option (Sg × Int32)
  | 0 => fun _ _ _ _ _ _ _ => none
  | n + 1 => x7_flowThrough_b21_G (x7_flowThrough_b21 n) x1_pieceOf
noncomputable def t_x7_flowThrough_b21 (K21 : Sg → Nat → Int32 → Int32 → Int32 → Int32 → Int32 → Option (Sg × Int32)) (c_x1_pieceOf : Sg → Nat → Int32 → Int32 → Int32 → Option (Sg × Int32)) : Bk (Sg × Int32) := (s_ldI 6 (s_ldI 3 (s_ic 2 (s_div (fun x y => x / y) (s_clt
  (s_ldI 5 (s_ldA 1 (s_ldI 6 (s_ldI 2 (s_ldI 3 (s_call (FW_x1_pieceOf c_x1_pieceOf) 4 (s_bin (fun x y => x + y) (s_stI 5 (s_ldI 5 (s_ic 1 (s_clt
    (s_inc 5 1 (s_inc 6 1 (s_goto (p_C 0 7 0 <| p_R 1 1 fun a1 => p_I 2 fun a2 => p_I 3 fun a3 => p_I 4 fun a4 => p_I 5 fun a5 => p_I 6 fun a6 => p_E fun s => K21 s a1 a2 a3 a4 a5 a6))))
    (s_ldI 5 (s_ic 1 (s_bin (fun x y => x + y) (s_ldA 0 (s_getD 1 (s_alen 75 256 (s_clt
      (s_ldI 5 (s_ldA 0 (s_getD 2 (s_alen 75 256 (s_clt
        (s_ldA 0 (s_getD 2 (s_ldI 5 (s_ic 1 (s_ldA 0 (s_getD 1 (s_ldI 5 (s_iald 75 256 (s_ldA 0 (s_getD 1 (s_ldI 5 (s_ic 1 (s_bin (fun x y => x - y) (s_iald 75 256 (s_ldA 0 (s_getD 1 (s_ldI 5 (s_ic 1 (s_bin (fun x y => x + y) (s_iald 75 256 (s_m2 g_max (s_m2 g_max (s_bin (fun x y => x + y) (s_iast 75 256 (s_ldI 4 (s_ldA 0 (s_getD 2 (s_ldI 5 (s_iald 75 256 (s_m2 g_max (s_stI 4 (s_inc 5 1 (s_inc 6 1 (s_goto (p_C 0 7 0 <| p_R 1 1 fun a1 => p_I 2 fun a2 => p_I 3 fun a3 => p_I 4 fun a4 => p_I 5 fun a5 => p_I 6 fun a6 => p_E fun s => K21 s a1 a2 a3 a4 a5 a6)))))))))))))))))))))))))))))))))))
        (s_inc 5 1 (s_inc 6 1 (s_goto (p_C 0 7 0 <| p_R 1 1 fun a1 => p_I 2 fun a2 => p_I 3 fun a3 => p_I 4 fun a4 => p_I 5 fun a5 => p_I 6 fun a6 => p_E fun s => K21 s a1 a2 a3 a4 a5 a6)))))))))
      (s_inc 5 1 (s_inc 6 1 (s_goto (p_C 0 7 0 <| p_R 1 1 fun a1 => p_I 2 fun a2 => p_I 3 fun a3 => p_I 4 fun a4 => p_I 5 fun a5 => p_I 6 fun a6 => p_E fun s => K21 s a1 a2 a3 a4 a5 a6))))))))))))))))))))))
  (s_ldI 4 (s_iret retI)))))))
set_option maxRecDepth 20000 in
theorem e_x7_flowThrough_b21 (K21 : Sg → Nat → Int32 → Int32 → Int32 → Int32 → Int32 → Option (Sg × Int32)) (c_x1_pieceOf : Sg → Nat → Int32 → Int32 → Int32 → Option (Sg × Int32)) (s : Sg) (g1 : Nat) (l2 : Int32) (l3 : Int32) (l4 : Int32) (l5 : Int32) (l6 : Int32) : x7_flowThrough_b21_G K21 c_x1_pieceOf s g1 l2 l3 l4 l5 l6 = t_x7_flowThrough_b21 K21 c_x1_pieceOf [some (.inr (.inr (some (7, 0)))), some (.inr (.inr (some (1, g1)))), some (.inl l2), some (.inl l3), some (.inl l4), some (.inl l5), some (.inl l6)] [] s := rfl
noncomputable def x7_flowThrough_G (K21 : Sg → Nat → Int32 → Int32 → Int32 → Int32 → Int32 → Option (Sg × Int32)) (s : Sg) (g1 : Nat) (l2 : Int32) (l3 : Int32) : Option (Sg × Int32) :=
  let s1 := g_fillI s 75 (rN s 7 0 2) 0
  gd (¬ 2 = (0 : Int32)) (
  K21 s1 g1 l2 l3 0 0 ((l2 + 1) / 2))
noncomputable def x7_flowThrough : Sg → Nat → Int32 → Int32 → Option (Sg × Int32) := x7_flowThrough_G (x7_flowThrough_b21 FU)
noncomputable def t_x7_flowThrough (K21 : Sg → Nat → Int32 → Int32 → Int32 → Int32 → Int32 → Option (Sg × Int32)) : Bk (Sg × Int32) := (s_ic 0 (s_stI 4 (s_ic 0 (s_stI 5 (s_ldA 0 (s_getD 2 (s_ic 0 (s_fillI 75 (s_ldI 2 (s_ic 1 (s_bin (fun x y => x + y) (s_ic 2 (s_div (fun x y => x / y) (s_stI 6 (p_C 0 7 0 <| p_R 1 1 fun a1 => p_I 2 fun a2 => p_I 3 fun a3 => p_I 4 fun a4 => p_I 5 fun a5 => p_I 6 fun a6 => p_E fun s => K21 s a1 a2 a3 a4 a5 a6)))))))))))))))
set_option maxRecDepth 20000 in
theorem e_x7_flowThrough (K21 : Sg → Nat → Int32 → Int32 → Int32 → Int32 → Int32 → Option (Sg × Int32)) (s : Sg) (g1 : Nat) (l2 : Int32) (l3 : Int32) : x7_flowThrough_G K21 s g1 l2 l3 = t_x7_flowThrough K21 [some (.inr (.inr (some (7, 0)))), some (.inr (.inr (some (1, g1)))), some (.inl l2), some (.inl l3), none, none, none] [] s := rfl
noncomputable def x7_longestRiver_b15_G (K15 : Sg → Nat → Int32 → Int32 → Int32 → Option (Sg × Int32)) (c_x7_tellOf : Sg → Int32 → Int32 → Option (Sg × Int32)) (c_x7_flowThrough : Sg → Nat → Int32 → Int32 → Option (Sg × Int32)) (s : Sg) (g1 : Nat) (l2 : Int32) (l3 : Int32) (l4 : Int32) : Option (Sg × Int32) :=
  gif ((l4 : Int32) < (rI s 7 0 4)) (
    (c_x7_tellOf s 0 l4).bind fun q1 => (
    (c_x7_flowThrough q1.1 g1 l3 q1.2).bind fun q2 => (
    let s3 := wN q2.1 7 0 1 (rN q2.1 7 0 2)
    let s4 := wN s3 7 0 2 (rN q2.1 7 0 1)
    K15 s4 g1 (g_max l2 q2.2) q1.2 (l4 + 1))))
  (
    some (s, l2))
noncomputable def x7_longestRiver_b15 : Nat → Sg → Nat → Int32 → Int32 → Int32 → Option (Sg × Int32)
  | 0 => fun _ _ _ _ _ => none
  | n + 1 => x7_longestRiver_b15_G (x7_longestRiver_b15 n) x7_tellOf x7_flowThrough
noncomputable def t_x7_longestRiver_b15 (K15 : Sg → Nat → Int32 → Int32 → Int32 → Option (Sg × Int32)) (c_x7_tellOf : Sg → Int32 → Int32 → Option (Sg × Int32)) (c_x7_flowThrough : Sg → Nat → Int32 → Int32 → Option (Sg × Int32)) : Bk (Sg × Int32) := (s_ldI 4 (s_ldA 0 (s_getI 7 4 (s_clt
  (s_ldA 0 (s_ic 0 (s_ldI 4 (s_call (FW_x7_tellOf c_x7_tellOf) 3 (s_stI 5 (s_ldI 2 (s_ldA 0 (s_ldA 1 (s_ldI 3 (s_ldI 5 (s_call (FW_x7_flowThrough c_x7_flowThrough) 4 (s_m2 g_max (s_stI 2 (s_ldA 0 (s_getD 1 (s_stA 6 (s_ldA 0 (s_ldA 0 (s_getD 2 (s_putD 1 (s_ldA 0 (s_ldA 6 (s_putD 2 (s_ldI 5 (s_stI 3 (s_inc 4 1 (s_goto (p_C 0 7 0 <| p_R 1 1 fun a1 => p_I 2 fun a2 => p_I 3 fun a3 => p_I 4 fun a4 => p_E fun s => K15 s a1 a2 a3 a4))))))))))))))))))))))))))))
  (s_ldI 2 (s_iret retI))))))
set_option maxRecDepth 20000 in
theorem e_x7_longestRiver_b15 (K15 : Sg → Nat → Int32 → Int32 → Int32 → Option (Sg × Int32)) (c_x7_tellOf : Sg → Int32 → Int32 → Option (Sg × Int32)) (c_x7_flowThrough : Sg → Nat → Int32 → Int32 → Option (Sg × Int32)) (s : Sg) (g1 : Nat) (l2 : Int32) (l3 : Int32) (l4 : Int32) : x7_longestRiver_b15_G K15 c_x7_tellOf c_x7_flowThrough s g1 l2 l3 l4 = t_x7_longestRiver_b15 K15 c_x7_tellOf c_x7_flowThrough [some (.inr (.inr (some (7, 0)))), some (.inr (.inr (some (1, g1)))), some (.inl l2), some (.inl l3), some (.inl l4), none, none] [] s := rfl
noncomputable def x7_longestRiver_G (K15 : Sg → Nat → Int32 → Int32 → Int32 → Option (Sg × Int32)) (s : Sg) (g1 : Nat) : Option (Sg × Int32) :=
  let s1 := g_fillI s 75 (rN s 7 0 1) 0
  K15 s1 g1 0 (-1) 0
noncomputable def x7_longestRiver : Sg → Nat → Option (Sg × Int32) := x7_longestRiver_G (x7_longestRiver_b15 FU)
noncomputable def t_x7_longestRiver (K15 : Sg → Nat → Int32 → Int32 → Int32 → Option (Sg × Int32)) : Bk (Sg × Int32) := (s_ic 0 (s_stI 2 (s_ic (-1) (s_stI 3 (s_ldA 0 (s_getD 1 (s_ic 0 (s_fillI 75 (s_ic 0 (s_stI 4 (p_C 0 7 0 <| p_R 1 1 fun a1 => p_I 2 fun a2 => p_I 3 fun a3 => p_I 4 fun a4 => p_E fun s => K15 s a1 a2 a3 a4)))))))))))
set_option maxRecDepth 20000 in
theorem e_x7_longestRiver (K15 : Sg → Nat → Int32 → Int32 → Int32 → Option (Sg × Int32)) (s : Sg) (g1 : Nat) : x7_longestRiver_G K15 s g1 = t_x7_longestRiver K15 [some (.inr (.inr (some (7, 0)))), some (.inr (.inr (some (1, g1)))), none, none, none, none, none] [] s := rfl
noncomputable def x9_canBeWord_G (s : Sg) (l0 : Int32) (l1 : Int32) (l2 : Int32) : Option (Sg × Int32) :=
  gif ((l0 : Int32) < 1) (
    gd (isB 0) (some (s, 0)))
  (
    gif ((20 : Int32) < l0) (
      gd (isB 0) (some (s, 0)))
    (
      gif ((l1 : Int32) < 0) (
        gd (isB 0) (some (s, 0)))
      (
        gif ((l1 : Int32) < l0) (
          gif ((l2 : Int32) < 0) (
            gd (isB 0) (some (s, 0)))
          (
            gif ((3 : Int32) < l2) (
              gd (isB 0) (some (s, 0)))
            (
              gd (isB 1) (some (s, 1)))))
        (
          gd (isB 0) (some (s, 0))))))
noncomputable def x9_canBeWord : Sg → Int32 → Int32 → Int32 → Option (Sg × Int32) := x9_canBeWord_G
noncomputable def t_x9_canBeWord : Bk (Sg × Int32) := (s_ldI 0 (s_ic 1 (s_clt
  (s_ic 0 (s_zret retI))
  (s_ldI 0 (s_ic 20 (s_cgt
    (s_ic 0 (s_zret retI))
    (s_ldI 1 (s_lt0
      (s_ic 0 (s_zret retI))
      (s_ldI 1 (s_ldI 0 (s_clt
        (s_ldI 2 (s_lt0
          (s_ic 0 (s_zret retI))
          (s_ldI 2 (s_ic 3 (s_cgt
            (s_ic 0 (s_zret retI))
            (s_ic 1 (s_goto (s_zret retI))))))))
        (s_ic 0 (s_zret retI)))))))))))))
set_option maxRecDepth 20000 in
theorem e_x9_canBeWord (s : Sg) (l0 : Int32) (l1 : Int32) (l2 : Int32) : x9_canBeWord_G s l0 l1 l2 = t_x9_canBeWord [some (.inl l0), some (.inl l1), some (.inl l2)] [] s := rfl
noncomputable def x9_refuse_b22_G (s : Sg) (l1 : Int32) (y0 : Int32) : Option (Sg × Int32) :=
  gif ((y0 : Int32) < 0) (
    some (s, l1))
  (
    gif ((y0 : Int32) < (Int32.ofNat 5)) (
      gd (inb y0 5) (
      gd (inb y0 5) (
      let s1 := wI s 41 0 (ix y0) ((rI s 41 0 (ix y0)) + 1)
      some (s1, l1))))
    (
      some (s, l1)))
noncomputable def x9_refuse_b22 : Sg → Int32 → Int32 → Option (Sg × Int32) := x9_refuse_b22_G
noncomputable def t_x9_refuse_b22 : Bk (Sg × Int32) := (s_stI 2 (s_ldI 2 (s_lt0
  (s_ldI 1 (s_iret retI))
  (s_ldI 2 (s_ldA 0 (s_getRc 9 12 41 0 (s_alen 41 5 (s_clt
    (s_ldA 0 (s_getRc 9 12 41 0 (s_ldI 2 (s_dup2 (s_iald 41 5 (s_ic 1 (s_bin (fun x y => x + y) (s_iast 41 5 (s_ldI 1 (s_iret retI))))))))))
    (s_ldI 1 (s_iret retI))))))))))
set_option maxRecDepth 20000 in
theorem e_x9_refuse_b22 (s : Sg) (l1 : Int32) (y0 : Int32) : x9_refuse_b22_G s l1 y0 = t_x9_refuse_b22 [some (.inr (.inr (some (9, 0)))), some (.inl l1), none] [.inl y0] s := rfl
noncomputable def x9_refuse_G (K22 : Sg → Int32 → Int32 → Option (Sg × Int32)) (s : Sg) (l1 : Int32) : Option (Sg × Int32) :=
  let s1 := wI s 9 0 16 l1
  gif (((-5) : Int32) < l1) (
    K22 s1 l1 ((-l1) - 1))
  (
    K22 s1 l1 ((-l1) - 2))
noncomputable def x9_refuse : Sg → Int32 → Option (Sg × Int32) := x9_refuse_G (x9_refuse_b22)
noncomputable def t_x9_refuse (K22 : Sg → Int32 → Int32 → Option (Sg × Int32)) : Bk (Sg × Int32) := (s_ldA 0 (s_ldI 1 (s_putI 9 16 (s_ldI 1 (s_ic (-5) (s_cgt
  (s_ldI 1 (s_neg (s_ic 1 (s_bin (fun x y => x - y) (s_goto (p_C 0 9 0 <| p_I 1 fun a1 => q_I fun b0 => p_E fun s => K22 s a1 b0))))))
  (s_ldI 1 (s_neg (s_ic 2 (s_bin (fun x y => x - y) (p_C 0 9 0 <| p_I 1 fun a1 => q_I fun b0 => p_E fun s => K22 s a1 b0)))))))))))
set_option maxRecDepth 20000 in
theorem e_x9_refuse (K22 : Sg → Int32 → Int32 → Option (Sg × Int32)) (s : Sg) (l1 : Int32) : x9_refuse_G K22 s l1 = t_x9_refuse K22 [some (.inr (.inr (some (9, 0)))), some (.inl l1), none] [] s := rfl
noncomputable def x9_answer_G (s : Sg) (l1 : Int32) : Option (Sg × Int32) :=
  let s1 := wI s 9 0 16 0
  some (s1, l1)
noncomputable def x9_answer : Sg → Int32 → Option (Sg × Int32) := x9_answer_G
noncomputable def t_x9_answer : Bk (Sg × Int32) := (s_ldA 0 (s_ic 0 (s_putI 9 16 (s_ldI 1 (s_iret retI)))))
set_option maxRecDepth 20000 in
theorem e_x9_answer (s : Sg) (l1 : Int32) : x9_answer_G s l1 = t_x9_answer [some (.inr (.inr (some (9, 0)))), some (.inl l1)] [] s := rfl
noncomputable def x9_word_G (c_x9_canBeWord : Sg → Int32 → Int32 → Int32 → Option (Sg × Int32)) (c_x9_refuse : Sg → Int32 → Option (Sg × Int32)) (c_x1_addWord : Sg → Nat → Int32 → Int32 → Int32 → Option Sg) (c_x9_answer : Sg → Int32 → Option (Sg × Int32)) (s : Sg) (l1 : Int32) (l2 : Int32) (l3 : Int32) : Option (Sg × Int32) :=
  (c_x9_canBeWord s l1 l2 l3).bind fun q1 => (
  gif ((q1.2 : Int32) = 0) (
    (c_x9_refuse q1.1 (-1)).bind fun q2 => (
    some (q2.1, q2.2)))
  (
    gif (((rI q1.1 1 0 7) : Int32) < 12) (
      (c_x1_addWord q1.1 0 l1 l2 l3).bind fun s3 => (
      let s4 := wI s3 3 0 3 0
      (c_x9_answer s4 ((rI s4 1 0 7) - 1)).bind fun q5 => (
      some (q5.1, q5.2))))
    (
      (c_x9_refuse q1.1 (-5)).bind fun q6 => (
      some (q6.1, q6.2)))))
noncomputable def x9_word : Sg → Int32 → Int32 → Int32 → Option (Sg × Int32) := x9_word_G x9_canBeWord x9_refuse x1_addWord x9_answer
noncomputable def t_x9_word (c_x9_canBeWord : Sg → Int32 → Int32 → Int32 → Option (Sg × Int32)) (c_x9_refuse : Sg → Int32 → Option (Sg × Int32)) (c_x1_addWord : Sg → Nat → Int32 → Int32 → Int32 → Option Sg) (c_x9_answer : Sg → Int32 → Option (Sg × Int32)) : Bk (Sg × Int32) := (s_ldI 1 (s_ldI 2 (s_ldI 3 (s_call (FW_x9_canBeWord c_x9_canBeWord) 3 (s_eq0
  (s_ldA 0 (s_ic (-1) (s_call (FW_x9_refuse c_x9_refuse) 2 (s_iret retI))))
  (s_ldA 0 (s_getRc 9 1 1 0 (s_getI 1 7 (s_ic 12 (s_clt
    (s_ldA 0 (s_getRc 9 1 1 0 (s_ldI 1 (s_ldI 2 (s_ldI 3 (s_call (FW_x1_addWord c_x1_addWord) 4 (s_ldA 0 (s_getRc 9 8 3 0 (s_ic 0 (s_putI 3 3 (s_ldA 0 (s_ldA 0 (s_getRc 9 1 1 0 (s_getI 1 7 (s_ic 1 (s_bin (fun x y => x - y) (s_call (FW_x9_answer c_x9_answer) 2 (s_iret retI))))))))))))))))))
    (s_ldA 0 (s_ic (-5) (s_call (FW_x9_refuse c_x9_refuse) 2 (s_iret retI))))))))))))))
set_option maxRecDepth 20000 in
theorem e_x9_word (c_x9_canBeWord : Sg → Int32 → Int32 → Int32 → Option (Sg × Int32)) (c_x9_refuse : Sg → Int32 → Option (Sg × Int32)) (c_x1_addWord : Sg → Nat → Int32 → Int32 → Int32 → Option Sg) (c_x9_answer : Sg → Int32 → Option (Sg × Int32)) (s : Sg) (l1 : Int32) (l2 : Int32) (l3 : Int32) : x9_word_G c_x9_canBeWord c_x9_refuse c_x1_addWord c_x9_answer s l1 l2 l3 = t_x9_word c_x9_canBeWord c_x9_refuse c_x1_addWord c_x9_answer [some (.inr (.inr (some (9, 0)))), some (.inl l1), some (.inl l2), some (.inl l3)] [] s := rfl
noncomputable def x9_of_G (c_x1_has : Sg → Nat → Int32 → Option (Sg × Int32)) (c_x1_endsAfter : Sg → Nat → Int32 → Option (Sg × Int32)) (c_x1_isSplit : Sg → Nat → Int32 → Option (Sg × Int32)) (s : Sg) (l1 : Int32) (l2 : Int32) : Option (Sg × Int32) :=
  (c_x1_has s 0 l1).bind fun q1 => (
  gif ((q1.2 : Int32) = 0) (
    some (q1.1, (-1)))
  (
    gif ((l2 : Int32) = 0) (
      gd (inb l1 12) (
      some (q1.1, (rI q1.1 12 0 (ix l1)))))
    (
    gif ((l2 : Int32) = 1) (
      gd (inb l1 12) (
      some (q1.1, (rI q1.1 13 0 (ix l1)))))
    (
    gif ((l2 : Int32) = 2) (
      gd (inb l1 12) (
      some (q1.1, (rI q1.1 14 0 (ix l1)))))
    (
    gif ((l2 : Int32) = 3) (
      (c_x1_endsAfter q1.1 0 l1).bind fun q2 => (
      gif ((q2.2 : Int32) = 0) (
        some (q2.1, 0))
      (
        some (q2.1, 1))))
    (
    gif ((l2 : Int32) = 4) (
      (c_x1_isSplit q1.1 0 l1).bind fun q3 => (
      gif ((q3.2 : Int32) = 0) (
        some (q3.1, 0))
      (
        some (q3.1, 1))))
    (
      some (q1.1, (-1)))))))))
noncomputable def x9_of : Sg → Int32 → Int32 → Option (Sg × Int32) := x9_of_G x1_has x1_endsAfter x1_isSplit
noncomputable def t_x9_of (c_x1_has : Sg → Nat → Int32 → Option (Sg × Int32)) (c_x1_endsAfter : Sg → Nat → Int32 → Option (Sg × Int32)) (c_x1_isSplit : Sg → Nat → Int32 → Option (Sg × Int32)) : Bk (Sg × Int32) := (s_ldA 0 (s_getRc 9 1 1 0 (s_ldI 1 (s_call (FW_x1_has c_x1_has) 2 (s_eq0
  (s_ic (-1) (s_iret retI))
  (s_ldI 2 (s_sw [(0, (s_ldA 0 (s_getRc 9 1 1 0 (s_getRv 1 0 12 (s_ldI 1 (s_iald 12 12 (s_iret retI))))))),
    (1, (s_ldA 0 (s_getRc 9 1 1 0 (s_getRv 1 1 13 (s_ldI 1 (s_iald 13 12 (s_iret retI))))))),
    (2, (s_ldA 0 (s_getRc 9 1 1 0 (s_getRv 1 2 14 (s_ldI 1 (s_iald 14 12 (s_iret retI))))))),
    (3, (s_ldA 0 (s_getRc 9 1 1 0 (s_ldI 1 (s_call (FW_x1_endsAfter c_x1_endsAfter) 2 (s_eq0
      (s_ic 0 (s_iret retI))
      (s_ic 1 (s_goto (s_iret retI))))))))),
    (4, (s_ldA 0 (s_getRc 9 1 1 0 (s_ldI 1 (s_call (FW_x1_isSplit c_x1_isSplit) 2 (s_eq0
      (s_ic 0 (s_iret retI))
      (s_ic 1 (s_goto (s_iret retI)))))))))]
    (s_ic (-1) (s_iret retI)))))))))
set_option maxRecDepth 20000 in
theorem e_x9_of (c_x1_has : Sg → Nat → Int32 → Option (Sg × Int32)) (c_x1_endsAfter : Sg → Nat → Int32 → Option (Sg × Int32)) (c_x1_isSplit : Sg → Nat → Int32 → Option (Sg × Int32)) (s : Sg) (l1 : Int32) (l2 : Int32) : x9_of_G c_x1_has c_x1_endsAfter c_x1_isSplit s l1 l2 = t_x9_of c_x1_has c_x1_endsAfter c_x1_isSplit [some (.inr (.inr (some (9, 0)))), some (.inl l1), some (.inl l2)] [] s := rfl
noncomputable def x9_line_G (c_x7_readSetting : Sg → Nat → Option Sg) (c_x7_tellOf : Sg → Int32 → Int32 → Option (Sg × Int32)) (s : Sg) (l1 : Int32) (l2 : Int32) : Option (Sg × Int32) :=
  gif ((l2 : Int32) < 0) (
    some (s, (-1)))
  (
    gif ((l2 : Int32) < 7) (
      (c_x7_readSetting s 0).bind fun s1 => (
      gif ((l1 : Int32) < 0) (
        some (s1, (-1)))
      (
        gif ((l1 : Int32) < (rI s1 7 0 4)) (
          (c_x7_tellOf s1 l2 l1).bind fun q2 => (
          some (q2.1, q2.2)))
        (
          some (s1, (-1))))))
    (
      some (s, (-1))))
noncomputable def x9_line : Sg → Int32 → Int32 → Option (Sg × Int32) := x9_line_G x7_readSetting x7_tellOf
noncomputable def t_x9_line (c_x7_readSetting : Sg → Nat → Option Sg) (c_x7_tellOf : Sg → Int32 → Int32 → Option (Sg × Int32)) : Bk (Sg × Int32) := (s_ldI 2 (s_lt0
  (s_ic (-1) (s_iret retI))
  (s_ldI 2 (s_ic 7 (s_clt
    (s_ldA 0 (s_getRc 9 9 7 0 (s_ldA 0 (s_getRc 9 1 1 0 (s_call (FW_x7_readSetting c_x7_readSetting) 2 (s_ldI 1 (s_lt0
      (s_ic (-1) (s_iret retI))
      (s_ldI 1 (s_ldA 0 (s_getRc 9 9 7 0 (s_getI 7 4 (s_clt
        (s_ldA 0 (s_getRc 9 9 7 0 (s_ldI 2 (s_ldI 1 (s_call (FW_x7_tellOf c_x7_tellOf) 3 (s_goto (s_iret retI)))))))
        (s_ic (-1) (s_iret retI))))))))))))))
    (s_ic (-1) (s_iret retI)))))))
set_option maxRecDepth 20000 in
theorem e_x9_line (c_x7_readSetting : Sg → Nat → Option Sg) (c_x7_tellOf : Sg → Int32 → Int32 → Option (Sg × Int32)) (s : Sg) (l1 : Int32) (l2 : Int32) : x9_line_G c_x7_readSetting c_x7_tellOf s l1 l2 = t_x9_line c_x7_readSetting c_x7_tellOf [some (.inr (.inr (some (9, 0)))), some (.inl l1), some (.inl l2)] [] s := rfl
noncomputable def x9_all_G (c_x7_readSetting : Sg → Nat → Option Sg) (c_x7_together : Sg → Int32 → Option (Sg × Int32)) (s : Sg) (l1 : Int32) : Option (Sg × Int32) :=
  (c_x7_readSetting s 0).bind fun s1 => (
  gif ((l1 : Int32) = 0) (
    (c_x7_together s1 3).bind fun q2 => (
    some (q2.1, q2.2)))
  (
  gif ((l1 : Int32) = 1) (
    (c_x7_together s1 4).bind fun q3 => (
    some (q3.1, q3.2)))
  (
  gif ((l1 : Int32) = 2) (
    (c_x7_together s1 6).bind fun q4 => (
    some (q4.1, q4.2)))
  (
    some (s1, (-1))))))
noncomputable def x9_all : Sg → Int32 → Option (Sg × Int32) := x9_all_G x7_readSetting x7_together
noncomputable def t_x9_all (c_x7_readSetting : Sg → Nat → Option Sg) (c_x7_together : Sg → Int32 → Option (Sg × Int32)) : Bk (Sg × Int32) := (s_ldA 0 (s_getRc 9 9 7 0 (s_ldA 0 (s_getRc 9 1 1 0 (s_call (FW_x7_readSetting c_x7_readSetting) 2 (s_ldI 1 (s_sw [(0, (s_ldA 0 (s_getRc 9 9 7 0 (s_ic 3 (s_call (FW_x7_together c_x7_together) 2 (s_iret retI)))))),
  (1, (s_ldA 0 (s_getRc 9 9 7 0 (s_ic 4 (s_call (FW_x7_together c_x7_together) 2 (s_iret retI)))))),
  (2, (s_ldA 0 (s_getRc 9 9 7 0 (s_ic 6 (s_call (FW_x7_together c_x7_together) 2 (s_iret retI))))))]
  (s_ic (-1) (s_iret retI)))))))))
set_option maxRecDepth 20000 in
theorem e_x9_all (c_x7_readSetting : Sg → Nat → Option Sg) (c_x7_together : Sg → Int32 → Option (Sg × Int32)) (s : Sg) (l1 : Int32) : x9_all_G c_x7_readSetting c_x7_together s l1 = t_x9_all c_x7_readSetting c_x7_together [some (.inr (.inr (some (9, 0)))), some (.inl l1)] [] s := rfl
noncomputable def x9_terms_G (c_x9_refuse : Sg → Int32 → Option (Sg × Int32)) (c_x9_answer : Sg → Int32 → Option (Sg × Int32)) (s : Sg) (l1 : Int32) (l2 : Int32) : Option (Sg × Int32) :=
  gif ((l1 : Int32) < 0) (
    (c_x9_refuse s (-1)).bind fun q1 => (
    some (q1.1, q1.2)))
  (
    gif ((3 : Int32) < l1) (
      (c_x9_refuse s (-1)).bind fun q2 => (
      some (q2.1, q2.2)))
    (
      gd (inb l1 4) (
      gif ((l2 : Int32) < (rI s 76 0 (ix l1))) (
        (c_x9_refuse s (-1)).bind fun q3 => (
        some (q3.1, q3.2)))
      (
        gd (inb l1 4) (
        gif (((rI s 77 0 (ix l1)) : Int32) < l2) (
          (c_x9_refuse s (-1)).bind fun q4 => (
          some (q4.1, q4.2)))
        (
          gd (inb l1 4) (
          gd (inb l1 4) (
          let s5 := wI s 15 0 (ix l1) l2
          let s6 := wI s5 3 0 3 0
          (c_x9_answer s6 (rI s 15 0 (ix l1))).bind fun q7 => (
          some (q7.1, q7.2))))))))))
noncomputable def x9_terms : Sg → Int32 → Int32 → Option (Sg × Int32) := x9_terms_G x9_refuse x9_answer
noncomputable def t_x9_terms (c_x9_refuse : Sg → Int32 → Option (Sg × Int32)) (c_x9_answer : Sg → Int32 → Option (Sg × Int32)) : Bk (Sg × Int32) := (s_ldI 1 (s_lt0
  (s_ldA 0 (s_ic (-1) (s_call (FW_x9_refuse c_x9_refuse) 2 (s_iret retI))))
  (s_ldI 1 (s_ic 3 (s_cgt
    (s_ldA 0 (s_ic (-1) (s_call (FW_x9_refuse c_x9_refuse) 2 (s_iret retI))))
    (s_ldI 2 (s_ref 76 9 (s_ldI 1 (s_iald 76 4 (s_clt
      (s_ldA 0 (s_ic (-1) (s_call (FW_x9_refuse c_x9_refuse) 2 (s_iret retI))))
      (s_ldI 2 (s_ref 77 9 (s_ldI 1 (s_iald 77 4 (s_cgt
        (s_ldA 0 (s_ic (-1) (s_call (FW_x9_refuse c_x9_refuse) 2 (s_iret retI))))
        (s_ldA 0 (s_getRc 9 1 1 0 (s_getRv 1 3 15 (s_ldI 1 (s_iald 15 4 (s_stI 3 (s_ldA 0 (s_getRc 9 1 1 0 (s_getRv 1 3 15 (s_ldI 1 (s_ldI 2 (s_iast 15 4 (s_ldA 0 (s_getRc 9 8 3 0 (s_ic 0 (s_putI 3 3 (s_ldA 0 (s_ldI 3 (s_call (FW_x9_answer c_x9_answer) 2 (s_iret retI)))))))))))))))))))))))))))))))))))
set_option maxRecDepth 20000 in
theorem e_x9_terms (c_x9_refuse : Sg → Int32 → Option (Sg × Int32)) (c_x9_answer : Sg → Int32 → Option (Sg × Int32)) (s : Sg) (l1 : Int32) (l2 : Int32) : x9_terms_G c_x9_refuse c_x9_answer s l1 l2 = t_x9_terms c_x9_refuse c_x9_answer [some (.inr (.inr (some (9, 0)))), some (.inl l1), some (.inl l2), none] [] s := rfl
noncomputable def x9_putFour_b3_G (K3 : Sg → Int32 → Int32 → Option Sg) (s : Sg) (l1 : Int32) (l2 : Int32) : Option Sg :=
  gif ((l2 : Int32) < 0) (
    some s)
  (
    gif (((rI s 9 0 13) : Int32) < 400) (
      gd (inb (rI s 9 0 13) 400) (
      let s1 := wI s 39 0 (ix (rI s 9 0 13)) (vp_nar .byte (Int8.toInt32 (Int32.toInt8 (l1 >>> (l2 &&& 31)))))
      let s2 := wI s1 9 0 13 ((rI s1 9 0 13) + 1)
      K3 s2 l1 (l2 + (-8))))
    (
      some s))
noncomputable def x9_putFour_b3 : Nat → Sg → Int32 → Int32 → Option Sg
  | 0 => fun _ _ _ => none
  | n + 1 => x9_putFour_b3_G (x9_putFour_b3 n)
noncomputable def t_x9_putFour_b3 (K3 : Sg → Int32 → Int32 → Option Sg) : Bk Sg := (s_ldI 2 (s_lt0
  (s_vret retV)
  (s_ldA 0 (s_getI 9 13 (s_ic 400 (s_clt
    (s_ldA 0 (s_getRc 9 6 39 0 (s_ldA 0 (s_getI 9 13 (s_ldI 1 (s_ldI 2 (s_bin (fun x y => x >>> (y &&& 31)) (s_i2b (s_bast .byte 39 400 (s_ldA 0 (s_dup (s_getI 9 13 (s_ic 1 (s_bin (fun x y => x + y) (s_putI 9 13 (s_inc 2 (-8) (s_goto (p_C 0 9 0 <| p_I 1 fun a1 => p_I 2 fun a2 => p_E fun s => K3 s a1 a2))))))))))))))))))
    (s_vret retV)))))))
set_option maxRecDepth 20000 in
theorem e_x9_putFour_b3 (K3 : Sg → Int32 → Int32 → Option Sg) (s : Sg) (l1 : Int32) (l2 : Int32) : x9_putFour_b3_G K3 s l1 l2 = t_x9_putFour_b3 K3 [some (.inr (.inr (some (9, 0)))), some (.inl l1), some (.inl l2)] [] s := rfl
noncomputable def x9_putFour_G (K3 : Sg → Int32 → Int32 → Option Sg) (s : Sg) (l1 : Int32) : Option Sg :=
  K3 s l1 24
noncomputable def x9_putFour : Sg → Int32 → Option Sg := x9_putFour_G (x9_putFour_b3 FU)
noncomputable def t_x9_putFour (K3 : Sg → Int32 → Int32 → Option Sg) : Bk Sg := (s_ic 24 (s_stI 2 (p_C 0 9 0 <| p_I 1 fun a1 => p_I 2 fun a2 => p_E fun s => K3 s a1 a2)))
set_option maxRecDepth 20000 in
theorem e_x9_putFour (K3 : Sg → Int32 → Int32 → Option Sg) (s : Sg) (l1 : Int32) : x9_putFour_G K3 s l1 = t_x9_putFour K3 [some (.inr (.inr (some (9, 0)))), some (.inl l1), none] [] s := rfl
noncomputable def x9_feed_G (c_x9_putFour : Sg → Int32 → Option Sg) (s : Sg) (l1 : Int32) (l2 : Int32) (l3 : Int32) (l4 : Int32) (l5 : Int32) : Option (Sg × Int32) :=
  gif ((400 : Int32) < ((rI s 9 0 13) + 20)) (
    some (s, (-1)))
  (
    (c_x9_putFour s l1).bind fun s1 => (
    (c_x9_putFour s1 l2).bind fun s2 => (
    (c_x9_putFour s2 l3).bind fun s3 => (
    (c_x9_putFour s3 l4).bind fun s4 => (
    (c_x9_putFour s4 l5).bind fun s5 => (
    some (s5, (rI s5 9 0 13))))))))
noncomputable def x9_feed : Sg → Int32 → Int32 → Int32 → Int32 → Int32 → Option (Sg × Int32) := x9_feed_G x9_putFour
noncomputable def t_x9_feed (c_x9_putFour : Sg → Int32 → Option Sg) : Bk (Sg × Int32) := (s_ldA 0 (s_getI 9 13 (s_ic 20 (s_bin (fun x y => x + y) (s_ic 400 (s_cgt
  (s_ic (-1) (s_iret retI))
  (s_ldA 0 (s_ldI 1 (s_call (FW_x9_putFour c_x9_putFour) 2 (s_ldA 0 (s_ldI 2 (s_call (FW_x9_putFour c_x9_putFour) 2 (s_ldA 0 (s_ldI 3 (s_call (FW_x9_putFour c_x9_putFour) 2 (s_ldA 0 (s_ldI 4 (s_call (FW_x9_putFour c_x9_putFour) 2 (s_ldA 0 (s_ldI 5 (s_call (FW_x9_putFour c_x9_putFour) 2 (s_ldA 0 (s_getI 9 13 (s_iret retI))))))))))))))))))))))))
set_option maxRecDepth 20000 in
theorem e_x9_feed (c_x9_putFour : Sg → Int32 → Option Sg) (s : Sg) (l1 : Int32) (l2 : Int32) (l3 : Int32) (l4 : Int32) (l5 : Int32) : x9_feed_G c_x9_putFour s l1 l2 l3 l4 l5 = t_x9_feed c_x9_putFour [some (.inr (.inr (some (9, 0)))), some (.inl l1), some (.inl l2), some (.inl l3), some (.inl l4), some (.inl l5)] [] s := rfl
noncomputable def x9_end_G (s : Sg) (l1 : Int32) : Option (Sg × Int32) :=
  gif ((l1 : Int32) < 0) (
    some (s, (-1)))
  (
    gif (((rI s 9 0 13) : Int32) < l1) (
      some (s, (-1)))
    (
      let s1 := wI s 9 0 13 l1
      some (s1, l1)))
noncomputable def x9_end : Sg → Int32 → Option (Sg × Int32) := x9_end_G
noncomputable def t_x9_end : Bk (Sg × Int32) := (s_ldI 1 (s_lt0
  (s_ic (-1) (s_iret retI))
  (s_ldI 1 (s_ldA 0 (s_getI 9 13 (s_cgt
    (s_ic (-1) (s_iret retI))
    (s_ldA 0 (s_ldI 1 (s_putI 9 13 (s_ldI 1 (s_iret retI)))))))))))
set_option maxRecDepth 20000 in
theorem e_x9_end (s : Sg) (l1 : Int32) : x9_end_G s l1 = t_x9_end [some (.inr (.inr (some (9, 0)))), some (.inl l1)] [] s := rfl
noncomputable def x9_takeWordAt_G (c_x9_canBeWord : Sg → Int32 → Int32 → Int32 → Option (Sg × Int32)) (c_x1_addWord : Sg → Nat → Int32 → Int32 → Int32 → Option Sg) (s : Sg) (l1 : Int32) : Option (Sg × Int32) :=
  gif ((l1 : Int32) < 0) (
    gd (isB 0) (some (s, 0)))
  (
    gif (((rI s 9 0 13) : Int32) < (l1 + 3)) (
      gd (isB 0) (some (s, 0)))
    (
      gif ((400 : Int32) < (l1 + 3)) (
        gd (isB 0) (some (s, 0)))
      (
        gif (((rI s 1 0 7) : Int32) < 12) (
          gd (inb l1 400) (
          gd (inb (l1 + 1) 400) (
          gd (inb (l1 + 2) 400) (
          (c_x9_canBeWord s ((rI s 39 0 (ix l1)) &&& 255) ((rI s 39 0 (ix (l1 + 1))) &&& 255) ((rI s 39 0 (ix (l1 + 2))) &&& 255)).bind fun q1 => (
          gif ((q1.2 : Int32) = 0) (
            gd (isB 0) (some (q1.1, 0)))
          (
            (c_x1_addWord q1.1 0 ((rI s 39 0 (ix l1)) &&& 255) ((rI s 39 0 (ix (l1 + 1))) &&& 255) ((rI s 39 0 (ix (l1 + 2))) &&& 255)).bind fun s2 => (
            gd (isB 1) (some (s2, 1)))))))))
        (
          gd (isB 0) (some (s, 0))))))
noncomputable def x9_takeWordAt : Sg → Int32 → Option (Sg × Int32) := x9_takeWordAt_G x9_canBeWord x1_addWord
noncomputable def t_x9_takeWordAt (c_x9_canBeWord : Sg → Int32 → Int32 → Int32 → Option (Sg × Int32)) (c_x1_addWord : Sg → Nat → Int32 → Int32 → Int32 → Option Sg) : Bk (Sg × Int32) := (s_ldI 1 (s_lt0
  (s_ic 0 (s_zret retI))
  (s_ldI 1 (s_ic 3 (s_bin (fun x y => x + y) (s_ldA 0 (s_getI 9 13 (s_cgt
    (s_ic 0 (s_zret retI))
    (s_ldI 1 (s_ic 3 (s_bin (fun x y => x + y) (s_ic 400 (s_cgt
      (s_ic 0 (s_zret retI))
      (s_ldA 0 (s_getRc 9 1 1 0 (s_getI 1 7 (s_ic 12 (s_clt
        (s_ldA 0 (s_getRc 9 6 39 0 (s_ldI 1 (s_bald 39 400 (s_ic 255 (s_bin (fun x y => x &&& y) (s_stI 2 (s_ldA 0 (s_getRc 9 6 39 0 (s_ldI 1 (s_ic 1 (s_bin (fun x y => x + y) (s_bald 39 400 (s_ic 255 (s_bin (fun x y => x &&& y) (s_stI 3 (s_ldA 0 (s_getRc 9 6 39 0 (s_ldI 1 (s_ic 2 (s_bin (fun x y => x + y) (s_bald 39 400 (s_ic 255 (s_bin (fun x y => x &&& y) (s_stI 4 (s_ldI 2 (s_ldI 3 (s_ldI 4 (s_call (FW_x9_canBeWord c_x9_canBeWord) 3 (s_eq0
          (s_ic 0 (s_zret retI))
          (s_ldA 0 (s_getRc 9 1 1 0 (s_ldI 2 (s_ldI 3 (s_ldI 4 (s_call (FW_x1_addWord c_x1_addWord) 4 (s_ic 1 (s_zret retI))))))))))))))))))))))))))))))))))))))
        (s_ic 0 (s_zret retI))))))))))))))))))))
set_option maxRecDepth 20000 in
theorem e_x9_takeWordAt (c_x9_canBeWord : Sg → Int32 → Int32 → Int32 → Option (Sg × Int32)) (c_x1_addWord : Sg → Nat → Int32 → Int32 → Int32 → Option Sg) (s : Sg) (l1 : Int32) : x9_takeWordAt_G c_x9_canBeWord c_x1_addWord s l1 = t_x9_takeWordAt c_x9_canBeWord c_x1_addWord [some (.inr (.inr (some (9, 0)))), some (.inl l1), none, none, none] [] s := rfl
noncomputable def x9_row_b23_G (K23 : Sg → Int32 → Int32 → Option (Sg × Int32)) (c_x9_takeWordAt : Sg → Int32 → Option (Sg × Int32)) (c_x9_answer : Sg → Int32 → Option (Sg × Int32)) (s : Sg) (l1 : Int32) (l2 : Int32) : Option (Sg × Int32) :=
  gif ((l2 : Int32) < (rI s 9 0 13)) (
    (c_x9_takeWordAt s l2).bind fun q1 => (
    gif ((q1.2 : Int32) = 0) (
      let s2 := wI q1.1 9 0 14 ((rI q1.1 9 0 14) + 1)
      K23 s2 l1 (l2 + 3))
    (
      K23 q1.1 (l1 + 1) (l2 + 3))))
  (
    let s3 := wI s 9 0 13 0
    let s4 := wI s3 3 0 3 0
    (c_x9_answer s4 l1).bind fun q5 => (
    some (q5.1, q5.2)))
noncomputable def x9_row_b23 : Nat → Sg → Int32 → Int32 → Option (Sg × Int32)
  | 0 => fun _ _ _ => none
  | n + 1 => x9_row_b23_G (x9_row_b23 n) x9_takeWordAt x9_answer
noncomputable def t_x9_row_b23 (K23 : Sg → Int32 → Int32 → Option (Sg × Int32)) (c_x9_takeWordAt : Sg → Int32 → Option (Sg × Int32)) (c_x9_answer : Sg → Int32 → Option (Sg × Int32)) : Bk (Sg × Int32) := (s_ldI 2 (s_ldA 0 (s_getI 9 13 (s_clt
  (s_ldA 0 (s_ldI 2 (s_call (FW_x9_takeWordAt c_x9_takeWordAt) 2 (s_eq0
    (s_ldA 0 (s_dup (s_getI 9 14 (s_ic 1 (s_bin (fun x y => x + y) (s_putI 9 14 (s_inc 2 3 (s_goto (p_C 0 9 0 <| p_I 1 fun a1 => p_I 2 fun a2 => p_E fun s => K23 s a1 a2)))))))))
    (s_inc 1 1 (s_goto (s_inc 2 3 (s_goto (p_C 0 9 0 <| p_I 1 fun a1 => p_I 2 fun a2 => p_E fun s => K23 s a1 a2)))))))))
  (s_ldA 0 (s_ic 0 (s_putI 9 13 (s_ldA 0 (s_getRc 9 8 3 0 (s_ic 0 (s_putI 3 3 (s_ldA 0 (s_ldI 1 (s_call (FW_x9_answer c_x9_answer) 2 (s_iret retI)))))))))))))))
set_option maxRecDepth 20000 in
theorem e_x9_row_b23 (K23 : Sg → Int32 → Int32 → Option (Sg × Int32)) (c_x9_takeWordAt : Sg → Int32 → Option (Sg × Int32)) (c_x9_answer : Sg → Int32 → Option (Sg × Int32)) (s : Sg) (l1 : Int32) (l2 : Int32) : x9_row_b23_G K23 c_x9_takeWordAt c_x9_answer s l1 l2 = t_x9_row_b23 K23 c_x9_takeWordAt c_x9_answer [some (.inr (.inr (some (9, 0)))), some (.inl l1), some (.inl l2)] [] s := rfl
noncomputable def x9_row_G (K23 : Sg → Int32 → Int32 → Option (Sg × Int32)) (c_x9_refuse : Sg → Int32 → Option (Sg × Int32)) (s : Sg) : Option (Sg × Int32) :=
  gif (((rI s 9 0 13) : Int32) = 0) (
    (c_x9_refuse s (-6)).bind fun q1 => (
    some (q1.1, q1.2)))
  (
    let s2 := wI s 9 0 14 0
    K23 s2 0 0)
noncomputable def x9_row : Sg → Option (Sg × Int32) := x9_row_G (x9_row_b23 FU) x9_refuse
noncomputable def t_x9_row (K23 : Sg → Int32 → Int32 → Option (Sg × Int32)) (c_x9_refuse : Sg → Int32 → Option (Sg × Int32)) : Bk (Sg × Int32) := (s_ldA 0 (s_getI 9 13 (s_eq0
  (s_ldA 0 (s_ic (-6) (s_call (FW_x9_refuse c_x9_refuse) 2 (s_iret retI))))
  (s_ic 0 (s_stI 1 (s_ldA 0 (s_ic 0 (s_putI 9 14 (s_ic 0 (s_stI 2 (p_C 0 9 0 <| p_I 1 fun a1 => p_I 2 fun a2 => p_E fun s => K23 s a1 a2)))))))))))
set_option maxRecDepth 20000 in
theorem e_x9_row (K23 : Sg → Int32 → Int32 → Option (Sg × Int32)) (c_x9_refuse : Sg → Int32 → Option (Sg × Int32)) (s : Sg) : x9_row_G K23 c_x9_refuse s = t_x9_row K23 c_x9_refuse [some (.inr (.inr (some (9, 0)))), none, none] [] s := rfl
noncomputable def x9_turned_G (s : Sg) : Option (Sg × Int32) :=
  some (s, (rI s 9 0 14))
noncomputable def x9_turned : Sg → Option (Sg × Int32) := x9_turned_G
noncomputable def t_x9_turned : Bk (Sg × Int32) := (s_ldA 0 (s_getI 9 14 (s_iret retI)))
set_option maxRecDepth 20000 in
theorem e_x9_turned (s : Sg) : x9_turned_G s = t_x9_turned [some (.inr (.inr (some (9, 0))))] [] s := rfl
noncomputable def x9_law_G (c_x9_refuse : Sg → Int32 → Option (Sg × Int32)) (c_x6_readText : Sg → Int32 → Int32 → Option Sg) (c_x8_trimmed : Sg → Nat → Option (Sg × Nat)) (c_x9_answer : Sg → Int32 → Option (Sg × Int32)) (s : Sg) : Option (Sg × Int32) :=
  gif (((rI s 1 0 11) : Int32) < 6) (
    (c_x6_readText s (rI s 9 0 13) 0).bind fun s1 => (
    let s2 := wI s1 9 0 13 0
    gif (((rI s2 6 0 6) : Int32) = (-1)) (
      (c_x8_trimmed s2 0).bind fun q3 => (
      gd (inb (rI s2 1 0 11) 6) (
      let s4 := wN q3.1 18 0 (ix (rI s2 1 0 11)) (q3.2 + 1)
      let s5 := wI s4 1 0 11 ((rI s4 1 0 11) + 1)
      (c_x9_answer s5 ((rI s5 1 0 11) - 1)).bind fun q6 => (
      some (q6.1, q6.2)))))
    (
      (c_x9_refuse s2 (-6)).bind fun q7 => (
      some (q7.1, q7.2)))))
  (
    let s8 := wI s 9 0 13 0
    (c_x9_refuse s8 (-5)).bind fun q9 => (
    some (q9.1, q9.2)))
noncomputable def x9_law : Sg → Option (Sg × Int32) := x9_law_G x9_refuse x6_readText x8_trimmed x9_answer
noncomputable def t_x9_law (c_x9_refuse : Sg → Int32 → Option (Sg × Int32)) (c_x6_readText : Sg → Int32 → Int32 → Option Sg) (c_x8_trimmed : Sg → Nat → Option (Sg × Nat)) (c_x9_answer : Sg → Int32 → Option (Sg × Int32)) : Bk (Sg × Int32) := (s_ldA 0 (s_getRc 9 1 1 0 (s_getI 1 11 (s_ic 6 (s_clt
  (s_ldA 0 (s_getRc 9 7 6 0 (s_ldA 0 (s_getRc 9 6 39 0 (s_ldA 0 (s_getI 9 13 (s_ic 0 (s_call (FW_x6_readText c_x6_readText) 4 (s_ldA 0 (s_ic 0 (s_putI 9 13 (s_ldA 0 (s_getRc 9 7 6 0 (s_getI 6 6 (s_ic (-1) (s_ceq
    (s_ldA 0 (s_getRc 9 1 1 0 (s_getRv 1 6 18 (s_ldA 0 (s_getRc 9 1 1 0 (s_getI 1 11 (s_ldA 0 (s_getRc 9 7 6 0 (s_getRc 6 0 8 0 (s_call (FW_x8_trimmed c_x8_trimmed) 1 (s_aastL (s_ldA 0 (s_getRc 9 1 1 0 (s_dup (s_getI 1 11 (s_ic 1 (s_bin (fun x y => x + y) (s_putI 1 11 (s_ldA 0 (s_ldA 0 (s_getRc 9 1 1 0 (s_getI 1 11 (s_ic 1 (s_bin (fun x y => x - y) (s_call (FW_x9_answer c_x9_answer) 2 (s_iret retI))))))))))))))))))))))))))
    (s_ldA 0 (s_ic (-6) (s_call (FW_x9_refuse c_x9_refuse) 2 (s_iret retI))))))))))))))))))))
  (s_ldA 0 (s_ic 0 (s_putI 9 13 (s_ldA 0 (s_ic (-5) (s_call (FW_x9_refuse c_x9_refuse) 2 (s_iret retI))))))))))))
set_option maxRecDepth 20000 in
theorem e_x9_law (c_x9_refuse : Sg → Int32 → Option (Sg × Int32)) (c_x6_readText : Sg → Int32 → Int32 → Option Sg) (c_x8_trimmed : Sg → Nat → Option (Sg × Nat)) (c_x9_answer : Sg → Int32 → Option (Sg × Int32)) (s : Sg) : x9_law_G c_x9_refuse c_x6_readText c_x8_trimmed c_x9_answer s = t_x9_law c_x9_refuse c_x6_readText c_x8_trimmed c_x9_answer [some (.inr (.inr (some (9, 0))))] [] s := rfl
noncomputable def x9_orders_b77_G (K61 : Sg → Int32 → Option (Sg × Int32)) (K77 : Sg → Int32 → Int32 → Option (Sg × Int32)) (c_x0_runOnce : Sg → Nat → Int32 → Option (Sg × Int32)) (c_x0_giveUp : Sg → Option Sg) (c_x9_refuse : Sg → Int32 → Option (Sg × Int32)) (s : Sg) (l2 : Int32) (l3 : Int32) : Option (Sg × Int32) :=
  gd (inb l2 12) (
  gif ((l3 : Int32) < (rI s 32 0 (ix l2))) (
    gif ((l3 : Int32) < 20) (
      (c_x0_runOnce s 0 l2).bind fun q1 => (
      gif ((q1.2 : Int32) = 0) (
        (c_x0_giveUp q1.1).bind fun s2 => (
        let s3 := wI s2 9 0 15 l2
        (c_x9_refuse s3 (-3)).bind fun q4 => (
        some (q4.1, q4.2))))
      (
        K77 q1.1 l2 (l3 + 1))))
    (
      K61 s (l2 + 1)))
  (
    K61 s (l2 + 1)))
noncomputable def x9_orders_b77 (K61 : Sg → Int32 → Option (Sg × Int32)) : Nat → Sg → Int32 → Int32 → Option (Sg × Int32)
  | 0 => fun _ _ _ => none
  | n + 1 => x9_orders_b77_G K61 (x9_orders_b77 K61 n) x0_runOnce x0_giveUp x9_refuse
noncomputable def t_x9_orders_b77 (K61 : Sg → Int32 → Option (Sg × Int32)) (K77 : Sg → Int32 → Int32 → Option (Sg × Int32)) (c_x0_runOnce : Sg → Nat → Int32 → Option (Sg × Int32)) (c_x0_giveUp : Sg → Option Sg) (c_x9_refuse : Sg → Int32 → Option (Sg × Int32)) : Bk (Sg × Int32) := (s_ldI 3 (s_ldA 1 (s_getRv 8 1 32 (s_ldI 2 (s_iald 32 12 (s_clt
  (s_ldI 3 (s_ic 20 (s_clt
    (s_ldA 0 (s_getRc 9 0 0 0 (s_ldA 1 (s_ldI 2 (s_call (FW_x0_runOnce c_x0_runOnce) 3 (s_eq0
      (s_ldA 0 (s_getRc 9 0 0 0 (s_call (FW_x0_giveUp c_x0_giveUp) 1 (s_ldA 0 (s_ldI 2 (s_putI 9 15 (s_ldA 0 (s_ic (-3) (s_call (FW_x9_refuse c_x9_refuse) 2 (s_iret retI))))))))))
      (s_inc 3 1 (s_goto (p_C 0 9 0 <| p_C 1 8 0 <| p_I 2 fun a2 => p_I 3 fun a3 => p_E fun s => K77 s a2 a3)))))))))
    (s_inc 2 1 (s_goto (p_C 0 9 0 <| p_C 1 8 0 <| p_I 2 fun a2 => p_E fun s => K61 s a2))))))
  (s_inc 2 1 (s_goto (p_C 0 9 0 <| p_C 1 8 0 <| p_I 2 fun a2 => p_E fun s => K61 s a2)))))))))
set_option maxRecDepth 20000 in
theorem e_x9_orders_b77 (K61 : Sg → Int32 → Option (Sg × Int32)) (K77 : Sg → Int32 → Int32 → Option (Sg × Int32)) (c_x0_runOnce : Sg → Nat → Int32 → Option (Sg × Int32)) (c_x0_giveUp : Sg → Option Sg) (c_x9_refuse : Sg → Int32 → Option (Sg × Int32)) (s : Sg) (l2 : Int32) (l3 : Int32) : x9_orders_b77_G K61 K77 c_x0_runOnce c_x0_giveUp c_x9_refuse s l2 l3 = t_x9_orders_b77 K61 K77 c_x0_runOnce c_x0_giveUp c_x9_refuse [some (.inr (.inr (some (9, 0)))), some (.inr (.inr (some (8, 0)))), some (.inl l2), some (.inl l3)] [] s := rfl
noncomputable def x9_orders_b61_G (K77 : Sg → Int32 → Int32 → Option (Sg × Int32)) (c_x9_answer : Sg → Int32 → Option (Sg × Int32)) (s : Sg) (l2 : Int32) : Option (Sg × Int32) :=
  gif ((l2 : Int32) < (rI s 8 0 6)) (
    gif ((l2 : Int32) < 12) (
      K77 s l2 0)
    (
      (c_x9_answer s (rI s 0 0 8)).bind fun q1 => (
      some (q1.1, q1.2))))
  (
    (c_x9_answer s (rI s 0 0 8)).bind fun q2 => (
    some (q2.1, q2.2)))
noncomputable def x9_orders_b61 : Nat → Sg → Int32 → Option (Sg × Int32)
  | 0 => fun _ _ => none
  | n + 1 => x9_orders_b61_G (x9_orders_b77 (x9_orders_b61 n) FU) x9_answer
noncomputable def t_x9_orders_b61 (K77 : Sg → Int32 → Int32 → Option (Sg × Int32)) (c_x9_answer : Sg → Int32 → Option (Sg × Int32)) : Bk (Sg × Int32) := (s_ldI 2 (s_ldA 1 (s_getI 8 6 (s_clt
  (s_ldI 2 (s_ic 12 (s_clt
    (s_ic 0 (s_stI 3 (p_C 0 9 0 <| p_C 1 8 0 <| p_I 2 fun a2 => p_I 3 fun a3 => p_E fun s => K77 s a2 a3)))
    (s_ldA 0 (s_ldA 0 (s_getRc 9 0 0 0 (s_getI 0 8 (s_call (FW_x9_answer c_x9_answer) 2 (s_iret retI)))))))))
  (s_ldA 0 (s_ldA 0 (s_getRc 9 0 0 0 (s_getI 0 8 (s_call (FW_x9_answer c_x9_answer) 2 (s_iret retI))))))))))
set_option maxRecDepth 20000 in
theorem e_x9_orders_b61 (K77 : Sg → Int32 → Int32 → Option (Sg × Int32)) (c_x9_answer : Sg → Int32 → Option (Sg × Int32)) (s : Sg) (l2 : Int32) : x9_orders_b61_G K77 c_x9_answer s l2 = t_x9_orders_b61 K77 c_x9_answer [some (.inr (.inr (some (9, 0)))), some (.inr (.inr (some (8, 0)))), some (.inl l2), none] [] s := rfl
noncomputable def x9_orders_G (K61 : Sg → Int32 → Option (Sg × Int32)) (c_x6_readText : Sg → Int32 → Int32 → Option Sg) (c_x9_refuse : Sg → Int32 → Option (Sg × Int32)) (c_x0_begin : Sg → Option Sg) (s : Sg) : Option (Sg × Int32) :=
  let s1 := wI s 9 0 15 (-1)
  (c_x6_readText s1 (rI s1 9 0 13) 1).bind fun s2 => (
  let s3 := wI s2 9 0 13 0
  gif (((rI s3 6 0 6) : Int32) = (-1)) (
    (c_x0_begin s3).bind fun s4 => (
    K61 s4 0))
  (
    (c_x9_refuse s3 (-6)).bind fun q5 => (
    some (q5.1, q5.2))))
noncomputable def x9_orders : Sg → Option (Sg × Int32) := x9_orders_G (x9_orders_b61 FU) x6_readText x9_refuse x0_begin
noncomputable def t_x9_orders (K61 : Sg → Int32 → Option (Sg × Int32)) (c_x6_readText : Sg → Int32 → Int32 → Option Sg) (c_x9_refuse : Sg → Int32 → Option (Sg × Int32)) (c_x0_begin : Sg → Option Sg) : Bk (Sg × Int32) := (s_ldA 0 (s_ic (-1) (s_putI 9 15 (s_ldA 0 (s_getRc 9 7 6 0 (s_ldA 0 (s_getRc 9 6 39 0 (s_ldA 0 (s_getI 9 13 (s_ic 1 (s_call (FW_x6_readText c_x6_readText) 4 (s_ldA 0 (s_ic 0 (s_putI 9 13 (s_ldA 0 (s_getRc 9 7 6 0 (s_getI 6 6 (s_ic (-1) (s_ceq
  (s_ldA 0 (s_getRc 9 7 6 0 (s_getRc 6 0 8 0 (s_stA 1 (s_ldA 0 (s_getRc 9 0 0 0 (s_call (FW_x0_begin c_x0_begin) 1 (s_ic 0 (s_stI 2 (p_C 0 9 0 <| p_C 1 8 0 <| p_I 2 fun a2 => p_E fun s => K61 s a2))))))))))
  (s_ldA 0 (s_ic (-6) (s_call (FW_x9_refuse c_x9_refuse) 2 (s_iret retI)))))))))))))))))))))))
set_option maxRecDepth 20000 in
theorem e_x9_orders (K61 : Sg → Int32 → Option (Sg × Int32)) (c_x6_readText : Sg → Int32 → Int32 → Option Sg) (c_x9_refuse : Sg → Int32 → Option (Sg × Int32)) (c_x0_begin : Sg → Option Sg) (s : Sg) : x9_orders_G K61 c_x6_readText c_x9_refuse c_x0_begin s = t_x9_orders K61 c_x6_readText c_x9_refuse c_x0_begin [some (.inr (.inr (some (9, 0)))), none, none, none] [] s := rfl
noncomputable def x9_fault_G (s : Sg) : Option (Sg × Int32) :=
  some (s, (rI s 6 0 6))
noncomputable def x9_fault : Sg → Option (Sg × Int32) := x9_fault_G
noncomputable def t_x9_fault : Bk (Sg × Int32) := (s_ldA 0 (s_getRc 9 7 6 0 (s_getI 6 6 (s_iret retI))))
set_option maxRecDepth 20000 in
theorem e_x9_fault (s : Sg) : x9_fault_G s = t_x9_fault [some (.inr (.inr (some (9, 0))))] [] s := rfl
noncomputable def x9_stopped_G (s : Sg) : Option (Sg × Int32) :=
  some (s, (rI s 9 0 15))
noncomputable def x9_stopped : Sg → Option (Sg × Int32) := x9_stopped_G
noncomputable def t_x9_stopped : Bk (Sg × Int32) := (s_ldA 0 (s_getI 9 15 (s_iret retI)))
set_option maxRecDepth 20000 in
theorem e_x9_stopped (s : Sg) : x9_stopped_G s = t_x9_stopped [some (.inr (.inr (some (9, 0))))] [] s := rfl
noncomputable def x9_force_G (c_x1_canForce : Sg → Nat → Int32 → Option (Sg × Int32)) (c_x9_refuse : Sg → Int32 → Option (Sg × Int32)) (c_x9_answer : Sg → Int32 → Option (Sg × Int32)) (s : Sg) (l1 : Int32) : Option (Sg × Int32) :=
  (c_x1_canForce s 0 l1).bind fun q1 => (
  gif ((q1.2 : Int32) = 0) (
    (c_x9_refuse q1.1 (-2)).bind fun q2 => (
    some (q2.1, q2.2)))
  (
    let s3 := wI q1.1 1 0 12 l1
    (c_x9_answer s3 (rI q1.1 1 0 12)).bind fun q4 => (
    some (q4.1, q4.2))))
noncomputable def x9_force : Sg → Int32 → Option (Sg × Int32) := x9_force_G x1_canForce x9_refuse x9_answer
noncomputable def t_x9_force (c_x1_canForce : Sg → Nat → Int32 → Option (Sg × Int32)) (c_x9_refuse : Sg → Int32 → Option (Sg × Int32)) (c_x9_answer : Sg → Int32 → Option (Sg × Int32)) : Bk (Sg × Int32) := (s_ldA 0 (s_getRc 9 1 1 0 (s_ldI 1 (s_call (FW_x1_canForce c_x1_canForce) 2 (s_eq0
  (s_ldA 0 (s_ic (-2) (s_call (FW_x9_refuse c_x9_refuse) 2 (s_iret retI))))
  (s_ldA 0 (s_getRc 9 1 1 0 (s_getI 1 12 (s_stI 2 (s_ldA 0 (s_getRc 9 1 1 0 (s_ldI 1 (s_putI 1 12 (s_ldA 0 (s_ldI 2 (s_call (FW_x9_answer c_x9_answer) 2 (s_iret retI)))))))))))))))))
set_option maxRecDepth 20000 in
theorem e_x9_force (c_x1_canForce : Sg → Nat → Int32 → Option (Sg × Int32)) (c_x9_refuse : Sg → Int32 → Option (Sg × Int32)) (c_x9_answer : Sg → Int32 → Option (Sg × Int32)) (s : Sg) (l1 : Int32) : x9_force_G c_x1_canForce c_x9_refuse c_x9_answer s l1 = t_x9_force c_x1_canForce c_x9_refuse c_x9_answer [some (.inr (.inr (some (9, 0)))), some (.inl l1), none] [] s := rfl
