noncomputable def x9_image_G (c_x9_refuse : Sg → Int32 → Option (Sg × Int32)) (c_x1_copyFrom : Sg → Nat → Nat → Option Sg) (c_x9_answer : Sg → Int32 → Option (Sg × Int32)) (s : Sg) (l1 : Int32) : Option (Sg × Int32) :=
  gif ((l1 : Int32) < 0) (
    (c_x9_refuse s (-1)).bind fun q1 => (
    some (q1.1, q1.2)))
  (
    gif ((l1 : Int32) < 2) (
      gd (inb l1 2) (
      (c_x1_copyFrom s (3 + ix l1) 0).bind fun s2 => (
      gd (inb l1 2) (
      let s3 := wI s2 38 0 (ix l1) (vp_nar .boolean 1)
      (c_x9_answer s3 0).bind fun q4 => (
      some (q4.1, q4.2))))))
    (
      (c_x9_refuse s (-1)).bind fun q5 => (
      some (q5.1, q5.2))))
noncomputable def x9_image : Sg → Int32 → Option (Sg × Int32) := x9_image_G x9_refuse x1_copyFrom x9_answer
noncomputable def t_x9_image (c_x9_refuse : Sg → Int32 → Option (Sg × Int32)) (c_x1_copyFrom : Sg → Nat → Nat → Option Sg) (c_x9_answer : Sg → Int32 → Option (Sg × Int32)) : Bk (Sg × Int32) := (s_ldI 1 (s_lt0
  (s_ldA 0 (s_ic (-1) (s_call (FW_x9_refuse c_x9_refuse) 2 (s_iret retI))))
  (s_ldI 1 (s_ic 2 (s_clt
    (s_ldA 0 (s_getRc 9 4 37 0 (s_ldI 1 (s_aaldG (s_ldA 0 (s_getRc 9 1 1 0 (s_call (FW_x1_copyFrom c_x1_copyFrom) 2 (s_ldA 0 (s_getRc 9 5 38 0 (s_ldI 1 (s_ic 1 (s_bast .boolean 38 2 (s_ldA 0 (s_ic 0 (s_call (FW_x9_answer c_x9_answer) 2 (s_iret retI))))))))))))))))
    (s_ldA 0 (s_ic (-1) (s_call (FW_x9_refuse c_x9_refuse) 2 (s_iret retI)))))))))
set_option maxRecDepth 20000 in
theorem e_x9_image (c_x9_refuse : Sg → Int32 → Option (Sg × Int32)) (c_x1_copyFrom : Sg → Nat → Nat → Option Sg) (c_x9_answer : Sg → Int32 → Option (Sg × Int32)) (s : Sg) (l1 : Int32) : x9_image_G c_x9_refuse c_x1_copyFrom c_x9_answer s l1 = t_x9_image c_x9_refuse c_x1_copyFrom c_x9_answer [some (.inr (.inr (some (9, 0)))), some (.inl l1)] [] s := rfl
noncomputable def x9_back_G (c_x9_refuse : Sg → Int32 → Option (Sg × Int32)) (c_x1_copyFrom : Sg → Nat → Nat → Option Sg) (c_x9_answer : Sg → Int32 → Option (Sg × Int32)) (s : Sg) (l1 : Int32) : Option (Sg × Int32) :=
  gif ((l1 : Int32) < 0) (
    (c_x9_refuse s (-1)).bind fun q1 => (
    some (q1.1, q1.2)))
  (
    gif ((l1 : Int32) < 2) (
      gd (inb l1 2) (
      gif (((rI s 38 0 (ix l1)) : Int32) = 0) (
        (c_x9_refuse s (-2)).bind fun q2 => (
        some (q2.1, q2.2)))
      (
        gd (inb l1 2) (
        (c_x1_copyFrom s 0 (3 + ix l1)).bind fun s3 => (
        let s4 := wI s3 3 0 3 0
        (c_x9_answer s4 0).bind fun q5 => (
        some (q5.1, q5.2)))))))
    (
      (c_x9_refuse s (-1)).bind fun q6 => (
      some (q6.1, q6.2))))
noncomputable def x9_back : Sg → Int32 → Option (Sg × Int32) := x9_back_G x9_refuse x1_copyFrom x9_answer
noncomputable def t_x9_back (c_x9_refuse : Sg → Int32 → Option (Sg × Int32)) (c_x1_copyFrom : Sg → Nat → Nat → Option Sg) (c_x9_answer : Sg → Int32 → Option (Sg × Int32)) : Bk (Sg × Int32) := (s_ldI 1 (s_lt0
  (s_ldA 0 (s_ic (-1) (s_call (FW_x9_refuse c_x9_refuse) 2 (s_iret retI))))
  (s_ldI 1 (s_ic 2 (s_clt
    (s_ldA 0 (s_getRc 9 5 38 0 (s_ldI 1 (s_bald 38 2 (s_eq0
      (s_ldA 0 (s_ic (-2) (s_call (FW_x9_refuse c_x9_refuse) 2 (s_iret retI))))
      (s_ldA 0 (s_getRc 9 1 1 0 (s_ldA 0 (s_getRc 9 4 37 0 (s_ldI 1 (s_aaldG (s_call (FW_x1_copyFrom c_x1_copyFrom) 2 (s_ldA 0 (s_getRc 9 8 3 0 (s_ic 0 (s_putI 3 3 (s_ldA 0 (s_ic 0 (s_call (FW_x9_answer c_x9_answer) 2 (s_iret retI))))))))))))))))))))
    (s_ldA 0 (s_ic (-1) (s_call (FW_x9_refuse c_x9_refuse) 2 (s_iret retI)))))))))
set_option maxRecDepth 20000 in
theorem e_x9_back (c_x9_refuse : Sg → Int32 → Option (Sg × Int32)) (c_x1_copyFrom : Sg → Nat → Nat → Option Sg) (c_x9_answer : Sg → Int32 → Option (Sg × Int32)) (s : Sg) (l1 : Int32) : x9_back_G c_x9_refuse c_x1_copyFrom c_x9_answer s l1 = t_x9_back c_x9_refuse c_x1_copyFrom c_x9_answer [some (.inr (.inr (some (9, 0)))), some (.inl l1)] [] s := rfl
noncomputable def x9_count_b47_G (c_x7_readSetting : Sg → Nat → Option Sg) (c_x7_howManyFit : Sg → Nat → Option (Sg × Int32)) (s : Sg) (l1 : Int32) : Option (Sg × Int32) :=
  gif ((l1 : Int32) = 0) (
    some (s, (rI s 1 0 7)))
  (
  gif ((l1 : Int32) = 1) (
    (c_x7_readSetting s 0).bind fun s1 => (
    some (s1, (rI s1 7 0 4))))
  (
  gif ((l1 : Int32) = 2) (
    (c_x7_howManyFit s 0).bind fun q2 => (
    some (q2.1, q2.2)))
  (
  gif ((l1 : Int32) = 3) (
    some (s, (rI s 1 0 10)))
  (
  gif ((l1 : Int32) = 4) (
    some (s, (rI s 1 0 11)))
  (
  gif ((l1 : Int32) = 5) (
    some (s, (rI s 3 0 3)))
  (
  gif ((l1 : Int32) = 6) (
    some (s, (rI s 9 0 13)))
  (
  gif ((l1 : Int32) = 7) (
    some (s, (-1)))
  (
  gif ((l1 : Int32) = 8) (
    some (s, (-1)))
  (
  gif ((l1 : Int32) = 9) (
    some (s, (-1)))
  (
  gif ((l1 : Int32) = 10) (
    some (s, (-1)))
  (
  gif ((l1 : Int32) = 11) (
    some (s, (-1)))
  (
  gif ((l1 : Int32) = 12) (
    some (s, (rI s 1 0 12)))
  (
    some (s, (-1)))))))))))))))
noncomputable def x9_count_b47 : Sg → Int32 → Option (Sg × Int32) := x9_count_b47_G x7_readSetting x7_howManyFit
noncomputable def t_x9_count_b47 (c_x7_readSetting : Sg → Nat → Option Sg) (c_x7_howManyFit : Sg → Nat → Option (Sg × Int32)) : Bk (Sg × Int32) := (s_ldI 1 (s_sw [(0, (s_ldA 0 (s_getRc 9 1 1 0 (s_getI 1 7 (s_iret retI))))),
  (1, (s_ldA 0 (s_getRc 9 9 7 0 (s_ldA 0 (s_getRc 9 1 1 0 (s_call (FW_x7_readSetting c_x7_readSetting) 2 (s_ldA 0 (s_getRc 9 9 7 0 (s_getI 7 4 (s_iret retI)))))))))),
  (2, (s_ldA 0 (s_getRc 9 9 7 0 (s_ldA 0 (s_getRc 9 1 1 0 (s_call (FW_x7_howManyFit c_x7_howManyFit) 2 (s_iret retI))))))),
  (3, (s_ldA 0 (s_getRc 9 1 1 0 (s_getI 1 10 (s_iret retI))))),
  (4, (s_ldA 0 (s_getRc 9 1 1 0 (s_getI 1 11 (s_iret retI))))),
  (5, (s_ldA 0 (s_getRc 9 8 3 0 (s_getI 3 3 (s_iret retI))))),
  (6, (s_ldA 0 (s_getI 9 13 (s_iret retI)))),
  (7, (s_ic (-1) (s_iret retI))),
  (8, (s_ic (-1) (s_iret retI))),
  (9, (s_ic (-1) (s_iret retI))),
  (10, (s_ic (-1) (s_iret retI))),
  (11, (s_ic (-1) (s_iret retI))),
  (12, (s_ldA 0 (s_getRc 9 1 1 0 (s_getI 1 12 (s_iret retI)))))]
  (s_ic (-1) (s_iret retI))))
set_option maxRecDepth 20000 in
theorem e_x9_count_b47 (c_x7_readSetting : Sg → Nat → Option Sg) (c_x7_howManyFit : Sg → Nat → Option (Sg × Int32)) (s : Sg) (l1 : Int32) : x9_count_b47_G c_x7_readSetting c_x7_howManyFit s l1 = t_x9_count_b47 c_x7_readSetting c_x7_howManyFit [some (.inr (.inr (some (9, 0)))), some (.inl l1)] [] s := rfl
noncomputable def x9_count_G (K47 : Sg → Int32 → Option (Sg × Int32)) (s : Sg) (l1 : Int32) : Option (Sg × Int32) :=
  gif ((l1 : Int32) < 7) (
    gif ((l1 : Int32) < 13) (
      K47 s l1)
    (
      gif ((16 : Int32) < l1) (
        K47 s l1)
      (
        gd (inb (l1 - 13) 4) (
        some (s, (rI s 15 0 (ix (l1 - 13))))))))
  (
    gif ((11 : Int32) < l1) (
      gif ((l1 : Int32) < 13) (
        K47 s l1)
      (
        gif ((16 : Int32) < l1) (
          K47 s l1)
        (
          gd (inb (l1 - 13) 4) (
          some (s, (rI s 15 0 (ix (l1 - 13))))))))
    (
      gd (inb (l1 - 7) 5) (
      some (s, (rI s 41 0 (ix (l1 - 7)))))))
noncomputable def x9_count : Sg → Int32 → Option (Sg × Int32) := x9_count_G (x9_count_b47)
noncomputable def t_x9_count (K47 : Sg → Int32 → Option (Sg × Int32)) : Bk (Sg × Int32) := (s_ldI 1 (s_ic 7 (s_clt
  (s_ldI 1 (s_ic 13 (s_clt
    (p_C 0 9 0 <| p_I 1 fun a1 => p_E fun s => K47 s a1)
    (s_ldI 1 (s_ic 16 (s_cgt
      (p_C 0 9 0 <| p_I 1 fun a1 => p_E fun s => K47 s a1)
      (s_ldA 0 (s_getRc 9 1 1 0 (s_getRv 1 3 15 (s_ldI 1 (s_ic 13 (s_bin (fun x y => x - y) (s_iald 15 4 (s_iret retI))))))))))))))
  (s_ldI 1 (s_ic 11 (s_cgt
    (s_ldI 1 (s_ic 13 (s_clt
      (p_C 0 9 0 <| p_I 1 fun a1 => p_E fun s => K47 s a1)
      (s_ldI 1 (s_ic 16 (s_cgt
        (p_C 0 9 0 <| p_I 1 fun a1 => p_E fun s => K47 s a1)
        (s_ldA 0 (s_getRc 9 1 1 0 (s_getRv 1 3 15 (s_ldI 1 (s_ic 13 (s_bin (fun x y => x - y) (s_iald 15 4 (s_iret retI))))))))))))))
    (s_ldA 0 (s_getRc 9 12 41 0 (s_ldI 1 (s_ic 7 (s_bin (fun x y => x - y) (s_iald 41 5 (s_iret retI)))))))))))))
set_option maxRecDepth 20000 in
theorem e_x9_count (K47 : Sg → Int32 → Option (Sg × Int32)) (s : Sg) (l1 : Int32) : x9_count_G K47 s l1 = t_x9_count K47 [some (.inr (.inr (some (9, 0)))), some (.inl l1)] [] s := rfl
noncomputable def x9_status_G (s : Sg) : Option (Sg × Int32) :=
  some (s, (rI s 9 0 16))
noncomputable def x9_status : Sg → Option (Sg × Int32) := x9_status_G
noncomputable def t_x9_status : Bk (Sg × Int32) := (s_ldA 0 (s_getI 9 16 (s_iret retI)))
set_option maxRecDepth 20000 in
theorem e_x9_status (s : Sg) : x9_status_G s = t_x9_status [some (.inr (.inr (some (9, 0))))] [] s := rfl
