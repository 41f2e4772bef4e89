noncomputable def x1_has_G (s : Sg) (g0 : Nat) (l1 : Int32) : Option (Sg × Int32) :=
  gif ((l1 : Int32) < 0) (
    gd (isB 0) (some (s, 0)))
  (
    gif ((l1 : Int32) < (rI s 1 g0 7)) (
      gif ((l1 : Int32) < 12) (
        gd (isB 1) (some (s, 1)))
      (
        gd (isB 0) (some (s, 0))))
    (
      gd (isB 0) (some (s, 0))))
noncomputable def x1_has : Sg → Nat → Int32 → Option (Sg × Int32) := x1_has_G
noncomputable def t_x1_has : Bk (Sg × Int32) := (s_ldI 1 (s_lt0
  (s_ic 0 (s_zret retI))
  (s_ldI 1 (s_ldA 0 (s_getI 1 7 (s_clt
    (s_ldI 1 (s_ic 12 (s_clt
      (s_ic 1 (s_goto (s_zret retI)))
      (s_ic 0 (s_zret retI)))))
    (s_ic 0 (s_zret retI))))))))
set_option maxRecDepth 20000 in
theorem e_x1_has (s : Sg) (g0 : Nat) (l1 : Int32) : x1_has_G s g0 l1 = t_x1_has [some (.inr (.inr (some (1, g0)))), some (.inl l1)] [] s := rfl
noncomputable def x1_whyNot_b42_G (c_x1_has : Sg → Nat → Int32 → Option (Sg × Int32)) (s : Sg) (g0 : Nat) (l1 : Int32) (l2 : Int32) (l3 : Int32) : Option (Sg × Int32) :=
  (c_x1_has s g0 l2).bind fun q1 => (
  gif ((q1.2 : Int32) = 0) (
    some (q1.1, (-2)))
  (
    gif ((l1 : Int32) = 0) (
      gif ((l2 : Int32) = ((rI q1.1 1 g0 7) - 1)) (
        some (q1.1, (-3)))
      (
        some (q1.1, 0)))
    (
      gif ((l1 : Int32) = 1) (
        gd (inb l2 12) (
        gif (((rI q1.1 13 g0 (ix l2)) : Int32) = 0) (
          some (q1.1, (-3)))
        (
          some (q1.1, 0))))
      (
        gd (inb l2 12) (
        gif ((l3 : Int32) = (rI q1.1 12 g0 (ix l2))) (
          some (q1.1, (-3)))
        (
          gd (inb l2 12) (
          gif (((rI q1.1 13 g0 (ix l2)) : Int32) < l3) (
            some (q1.1, 0))
          (
            some (q1.1, (-3))))))))))
noncomputable def x1_whyNot_b42 : Sg → Nat → Int32 → Int32 → Int32 → Option (Sg × Int32) := x1_whyNot_b42_G x1_has
noncomputable def t_x1_whyNot_b42 (c_x1_has : Sg → Nat → Int32 → Option (Sg × Int32)) : Bk (Sg × Int32) := (s_ldA 0 (s_ldI 2 (s_call (FW_x1_has c_x1_has) 2 (s_eq0
  (s_ic (-2) (s_iret retI))
  (s_ldI 1 (s_eq0
    (s_ldI 2 (s_ldA 0 (s_getI 1 7 (s_ic 1 (s_bin (fun x y => x - y) (s_ceq
      (s_ic (-3) (s_goto (s_iret retI)))
      (s_ic 0 (s_iret retI))))))))
    (s_ldI 1 (s_ic 1 (s_ceq
      (s_ldA 0 (s_getRv 1 1 13 (s_ldI 2 (s_iald 13 12 (s_eq0
        (s_ic (-3) (s_goto (s_iret retI)))
        (s_ic 0 (s_iret retI)))))))
      (s_ldI 3 (s_ldA 0 (s_getRv 1 0 12 (s_ldI 2 (s_iald 12 12 (s_ceq
        (s_ic (-3) (s_goto (s_iret retI)))
        (s_ldI 3 (s_ldA 0 (s_getRv 1 1 13 (s_ldI 2 (s_iald 13 12 (s_cgt
          (s_ic 0 (s_iret retI))
          (s_ic (-3) (s_goto (s_iret retI))))))))))))))))))))))))
set_option maxRecDepth 20000 in
theorem e_x1_whyNot_b42 (c_x1_has : Sg → Nat → Int32 → Option (Sg × Int32)) (s : Sg) (g0 : Nat) (l1 : Int32) (l2 : Int32) (l3 : Int32) : x1_whyNot_b42_G c_x1_has s g0 l1 l2 l3 = t_x1_whyNot_b42 c_x1_has [some (.inr (.inr (some (1, g0)))), some (.inl l1), some (.inl l2), some (.inl l3)] [] s := rfl
noncomputable def x1_whyNot_G (K42 : Sg → Nat → Int32 → Int32 → Int32 → Option (Sg × Int32)) (s : Sg) (g0 : Nat) (l1 : Int32) (l2 : Int32) (l3 : Int32) : Option (Sg × Int32) :=
  gif ((l1 : Int32) = 3) (
    gd (inb 0 4) (
    gif (((rI s 15 g0 (ix 0)) : Int32) < 999) (
      some (s, 0))
    (
      some (s, (-3)))))
  (
    gif ((l1 : Int32) = 2) (
      gif ((l3 : Int32) < 1) (
        some (s, (-1)))
      (
        gif ((20 : Int32) < l3) (
          some (s, (-1)))
        (
          K42 s g0 l1 l2 l3)))
    (
      K42 s g0 l1 l2 l3))
noncomputable def x1_whyNot : Sg → Nat → Int32 → Int32 → Int32 → Option (Sg × Int32) := x1_whyNot_G (x1_whyNot_b42)
noncomputable def t_x1_whyNot (K42 : Sg → Nat → Int32 → Int32 → Int32 → Option (Sg × Int32)) : Bk (Sg × Int32) := (s_ldI 1 (s_ic 3 (s_ceq
  (s_ldA 0 (s_getRv 1 3 15 (s_ic 0 (s_iald 15 4 (s_ic 999 (s_clt
    (s_ic 0 (s_iret retI))
    (s_ic (-3) (s_goto (s_iret retI)))))))))
  (s_ldI 1 (s_ic 2 (s_ceq
    (s_ldI 3 (s_ic 1 (s_clt
      (s_ic (-1) (s_iret retI))
      (s_ldI 3 (s_ic 20 (s_cgt
        (s_ic (-1) (s_iret retI))
        (p_R 0 1 fun a0 => p_I 1 fun a1 => p_I 2 fun a2 => p_I 3 fun a3 => p_E fun s => K42 s a0 a1 a2 a3)))))))
    (p_R 0 1 fun a0 => p_I 1 fun a1 => p_I 2 fun a2 => p_I 3 fun a3 => p_E fun s => K42 s a0 a1 a2 a3)))))))
set_option maxRecDepth 20000 in
theorem e_x1_whyNot (K42 : Sg → Nat → Int32 → Int32 → Int32 → Option (Sg × Int32)) (s : Sg) (g0 : Nat) (l1 : Int32) (l2 : Int32) (l3 : Int32) : x1_whyNot_G K42 s g0 l1 l2 l3 = t_x1_whyNot K42 [some (.inr (.inr (some (1, g0)))), some (.inl l1), some (.inl l2), some (.inl l3)] [] s := rfl
noncomputable def x1_wideOf_G (c_x1_has : Sg → Nat → Int32 → Option (Sg × Int32)) (s : Sg) (g0 : Nat) (l1 : Int32) : Option (Sg × Int32) :=
  (c_x1_has s g0 l1).bind fun q1 => (
  gif ((q1.2 : Int32) = 0) (
    some (q1.1, (-1)))
  (
    gd (inb l1 12) (
    some (q1.1, (rI q1.1 12 g0 (ix l1))))))
noncomputable def x1_wideOf : Sg → Nat → Int32 → Option (Sg × Int32) := x1_wideOf_G x1_has
noncomputable def t_x1_wideOf (c_x1_has : Sg → Nat → Int32 → Option (Sg × Int32)) : Bk (Sg × Int32) := (s_ldA 0 (s_ldI 1 (s_call (FW_x1_has c_x1_has) 2 (s_eq0
  (s_ic (-1) (s_iret retI))
  (s_ldA 0 (s_getRv 1 0 12 (s_ldI 1 (s_iald 12 12 (s_goto (s_iret retI))))))))))
set_option maxRecDepth 20000 in
theorem e_x1_wideOf (c_x1_has : Sg → Nat → Int32 → Option (Sg × Int32)) (s : Sg) (g0 : Nat) (l1 : Int32) : x1_wideOf_G c_x1_has s g0 l1 = t_x1_wideOf c_x1_has [some (.inr (.inr (some (1, g0)))), some (.inl l1)] [] s := rfl
noncomputable def x3_dropOldest_G (s : Sg) (g0 : Nat) : Option Sg :=
  gd (g_cok 1 0 15 16 16) (
  let s1 := g_cpy s 20 g0 1 20 g0 0 15
  gd (g_cok 1 0 15 16 16) (
  let s2 := g_cpy s1 21 g0 1 21 g0 0 15
  gd (g_cok 1 0 15 16 16) (
  let s3 := g_cpy s2 22 g0 1 22 g0 0 15
  let s4 := wI s3 3 g0 3 15
  some s4)))
noncomputable def x3_dropOldest : Sg → Nat → Option Sg := x3_dropOldest_G
noncomputable def t_x3_dropOldest : Bk Sg := (s_ldA 0 (s_getRv 3 0 20 (s_ic 1 (s_ldA 0 (s_getRv 3 0 20 (s_ic 0 (s_ic 15 (s_copy 20 16 20 16 (s_ldA 0 (s_getRv 3 1 21 (s_ic 1 (s_ldA 0 (s_getRv 3 1 21 (s_ic 0 (s_ic 15 (s_copy 21 16 21 16 (s_ldA 0 (s_getRv 3 2 22 (s_ic 1 (s_ldA 0 (s_getRv 3 2 22 (s_ic 0 (s_ic 15 (s_copy 22 16 22 16 (s_ldA 0 (s_ic 15 (s_putI 3 3 (s_vret retV))))))))))))))))))))))))))))
set_option maxRecDepth 20000 in
theorem e_x3_dropOldest (s : Sg) (g0 : Nat) : x3_dropOldest_G s g0 = t_x3_dropOldest [some (.inr (.inr (some (3, g0))))] [] s := rfl
noncomputable def x3_note_b13_G (s : Sg) (g0 : Nat) (l1 : Int32) (l2 : Int32) (l3 : Int32) : Option Sg :=
  gif (((rI s 3 g0 3) : Int32) < 0) (
    some s)
  (
    gif (((rI s 3 g0 3) : Int32) < 16) (
      gd (inb (rI s 3 g0 3) 16) (
      let s1 := wI s 20 g0 (ix (rI s 3 g0 3)) l1
      gd (inb (rI s1 3 g0 3) 16) (
      let s2 := wI s1 21 g0 (ix (rI s1 3 g0 3)) l2
      gd (inb (rI s2 3 g0 3) 16) (
      let s3 := wI s2 22 g0 (ix (rI s2 3 g0 3)) l3
      let s4 := wI s3 3 g0 3 ((rI s3 3 g0 3) + 1)
      some s4))))
    (
      some s))
noncomputable def x3_note_b13 : Sg → Nat → Int32 → Int32 → Int32 → Option Sg := x3_note_b13_G
noncomputable def t_x3_note_b13 : Bk Sg := (s_ldA 0 (s_getI 3 3 (s_lt0
  (s_vret retV)
  (s_ldA 0 (s_getI 3 3 (s_ic 16 (s_clt
    (s_ldA 0 (s_getRv 3 0 20 (s_ldA 0 (s_getI 3 3 (s_ldI 1 (s_iast 20 16 (s_ldA 0 (s_getRv 3 1 21 (s_ldA 0 (s_getI 3 3 (s_ldI 2 (s_iast 21 16 (s_ldA 0 (s_getRv 3 2 22 (s_ldA 0 (s_getI 3 3 (s_ldI 3 (s_iast 22 16 (s_ldA 0 (s_dup (s_getI 3 3 (s_ic 1 (s_bin (fun x y => x + y) (s_putI 3 3 (s_vret retV)))))))))))))))))))))))))
    (s_vret retV))))))))
set_option maxRecDepth 20000 in
theorem e_x3_note_b13 (s : Sg) (g0 : Nat) (l1 : Int32) (l2 : Int32) (l3 : Int32) : x3_note_b13_G s g0 l1 l2 l3 = t_x3_note_b13 [some (.inr (.inr (some (3, g0)))), some (.inl l1), some (.inl l2), some (.inl l3)] [] s := rfl
noncomputable def x3_note_G (K13 : Sg → Nat → Int32 → Int32 → Int32 → Option Sg) (c_x3_dropOldest : Sg → Nat → Option Sg) (s : Sg) (g0 : Nat) (l1 : Int32) (l2 : Int32) (l3 : Int32) : Option Sg :=
  gif (((rI s 3 g0 3) : Int32) < 16) (
    K13 s g0 l1 l2 l3)
  (
    (c_x3_dropOldest s g0).bind fun s1 => (
    K13 s1 g0 l1 l2 l3))
noncomputable def x3_note : Sg → Nat → Int32 → Int32 → Int32 → Option Sg := x3_note_G (x3_note_b13) x3_dropOldest
noncomputable def t_x3_note (K13 : Sg → Nat → Int32 → Int32 → Int32 → Option Sg) (c_x3_dropOldest : Sg → Nat → Option Sg) : Bk Sg := (s_ldA 0 (s_getI 3 3 (s_ic 16 (s_clt
  (p_R 0 3 fun a0 => p_I 1 fun a1 => p_I 2 fun a2 => p_I 3 fun a3 => p_E fun s => K13 s a0 a1 a2 a3)
  (s_ldA 0 (s_call (FW_x3_dropOldest c_x3_dropOldest) 1 (p_R 0 3 fun a0 => p_I 1 fun a1 => p_I 2 fun a2 => p_I 3 fun a3 => p_E fun s => K13 s a0 a1 a2 a3)))))))
set_option maxRecDepth 20000 in
theorem e_x3_note (K13 : Sg → Nat → Int32 → Int32 → Int32 → Option Sg) (c_x3_dropOldest : Sg → Nat → Option Sg) (s : Sg) (g0 : Nat) (l1 : Int32) (l2 : Int32) (l3 : Int32) : x3_note_G K13 c_x3_dropOldest s g0 l1 l2 l3 = t_x3_note K13 c_x3_dropOldest [some (.inr (.inr (some (3, g0)))), some (.inl l1), some (.inl l2), some (.inl l3)] [] s := rfl
noncomputable def x1_carryOutIfItCanBe_G (c_x1_whyNot : Sg → Nat → Int32 → Int32 → Int32 → Option (Sg × Int32)) (s : Sg) (g0 : Nat) (l1 : Int32) (l2 : Int32) (l3 : Int32) : Option Sg :=
  (c_x1_whyNot s g0 l1 l2 l3).bind fun q1 => (
  gif ((q1.2 : Int32) = 0) (
    gif ((l1 : Int32) = 0) (
      let s2 := wI q1.1 1 g0 8 ((rI q1.1 1 g0 8) ^^^ (1 <<< (l2 &&& 31)))
      some s2)
    (
      gif ((l1 : Int32) = 1) (
        let s3 := wI q1.1 1 g0 9 ((rI q1.1 1 g0 9) ^^^ (1 <<< (l2 &&& 31)))
        some s3)
      (
        gif ((l1 : Int32) = 2) (
          gd (inb l2 12) (
          let s4 := wI q1.1 12 g0 (ix l2) l3
          some s4))
        (
          gd (inb 0 4) (
          gd (inb 0 4) (
          let s5 := wI q1.1 15 g0 (ix 0) ((rI q1.1 15 g0 (ix 0)) + 1)
          some s5))))))
  (
    some q1.1))
noncomputable def x1_carryOutIfItCanBe : Sg → Nat → Int32 → Int32 → Int32 → Option Sg := x1_carryOutIfItCanBe_G x1_whyNot
noncomputable def t_x1_carryOutIfItCanBe (c_x1_whyNot : Sg → Nat → Int32 → Int32 → Int32 → Option (Sg × Int32)) : Bk Sg := (s_ldA 0 (s_ldI 1 (s_ldI 2 (s_ldI 3 (s_call (FW_x1_whyNot c_x1_whyNot) 4 (s_eq0
  (s_ldI 1 (s_eq0
    (s_ldA 0 (s_dup (s_getI 1 8 (s_ic 1 (s_ldI 2 (s_bin (fun x y => x <<< (y &&& 31)) (s_bin (fun x y => x ^^^ y) (s_putI 1 8 (s_goto (s_vret retV))))))))))
    (s_ldI 1 (s_ic 1 (s_ceq
      (s_ldA 0 (s_dup (s_getI 1 9 (s_ic 1 (s_ldI 2 (s_bin (fun x y => x <<< (y &&& 31)) (s_bin (fun x y => x ^^^ y) (s_putI 1 9 (s_goto (s_vret retV))))))))))
      (s_ldI 1 (s_ic 2 (s_ceq
        (s_ldA 0 (s_getRv 1 0 12 (s_ldI 2 (s_ldI 3 (s_iast 12 12 (s_goto (s_vret retV)))))))
        (s_ldA 0 (s_getRv 1 3 15 (s_ic 0 (s_dup2 (s_iald 15 4 (s_ic 1 (s_bin (fun x y => x + y) (s_iast 15 4 (s_vret retV)))))))))))))))))
  (s_vret retV)))))))
set_option maxRecDepth 20000 in
theorem e_x1_carryOutIfItCanBe (c_x1_whyNot : Sg → Nat → Int32 → Int32 → Int32 → Option (Sg × Int32)) (s : Sg) (g0 : Nat) (l1 : Int32) (l2 : Int32) (l3 : Int32) : x1_carryOutIfItCanBe_G c_x1_whyNot s g0 l1 l2 l3 = t_x1_carryOutIfItCanBe c_x1_whyNot [some (.inr (.inr (some (1, g0)))), some (.inl l1), some (.inl l2), some (.inl l3)] [] s := rfl
noncomputable def x0_attempt_G (c_x1_whyNot : Sg → Nat → Int32 → Int32 → Int32 → Option (Sg × Int32)) (c_x1_wideOf : Sg → Nat → Int32 → Option (Sg × Int32)) (c_x3_note : Sg → Nat → Int32 → Int32 → Int32 → Option Sg) (c_x1_carryOutIfItCanBe : Sg → Nat → Int32 → Int32 → Int32 → Option Sg) (s : Sg) (l1 : Int32) (l2 : Int32) (l3 : Int32) : Option (Sg × Int32) :=
  (c_x1_whyNot s 0 l1 l2 l3).bind fun q1 => (
  gif ((q1.2 : Int32) = 0) (
    (c_x1_wideOf q1.1 0 l2).bind fun q2 => (
    (c_x3_note q2.1 0 l1 l2 q2.2).bind fun s3 => (
    (c_x1_carryOutIfItCanBe s3 0 l1 l2 l3).bind fun s4 => (
    some (s4, q1.2)))))
  (
    some (q1.1, q1.2)))
noncomputable def x0_attempt : Sg → Int32 → Int32 → Int32 → Option (Sg × Int32) := x0_attempt_G x1_whyNot x1_wideOf x3_note x1_carryOutIfItCanBe
noncomputable def t_x0_attempt (c_x1_whyNot : Sg → Nat → Int32 → Int32 → Int32 → Option (Sg × Int32)) (c_x1_wideOf : Sg → Nat → Int32 → Option (Sg × Int32)) (c_x3_note : Sg → Nat → Int32 → Int32 → Int32 → Option Sg) (c_x1_carryOutIfItCanBe : Sg → Nat → Int32 → Int32 → Int32 → Option Sg) : Bk (Sg × Int32) := (s_ldA 0 (s_getRc 0 0 1 0 (s_ldI 1 (s_ldI 2 (s_ldI 3 (s_call (FW_x1_whyNot c_x1_whyNot) 4 (s_stI 4 (s_ldI 4 (s_eq0
  (s_ldA 0 (s_getRc 0 1 3 0 (s_ldI 1 (s_ldI 2 (s_ldA 0 (s_getRc 0 0 1 0 (s_ldI 2 (s_call (FW_x1_wideOf c_x1_wideOf) 2 (s_call (FW_x3_note c_x3_note) 4 (s_ldA 0 (s_getRc 0 0 1 0 (s_ldI 1 (s_ldI 2 (s_ldI 3 (s_call (FW_x1_carryOutIfItCanBe c_x1_carryOutIfItCanBe) 4 (s_ldI 4 (s_iret retI)))))))))))))))))
  (s_ldI 4 (s_iret retI)))))))))))
set_option maxRecDepth 20000 in
theorem e_x0_attempt (c_x1_whyNot : Sg → Nat → Int32 → Int32 → Int32 → Option (Sg × Int32)) (c_x1_wideOf : Sg → Nat → Int32 → Option (Sg × Int32)) (c_x3_note : Sg → Nat → Int32 → Int32 → Int32 → Option Sg) (c_x1_carryOutIfItCanBe : Sg → Nat → Int32 → Int32 → Int32 → Option Sg) (s : Sg) (l1 : Int32) (l2 : Int32) (l3 : Int32) : x0_attempt_G c_x1_whyNot c_x1_wideOf c_x3_note c_x1_carryOutIfItCanBe s l1 l2 l3 = t_x0_attempt c_x1_whyNot c_x1_wideOf c_x3_note c_x1_carryOutIfItCanBe [some (.inr (.inr (some (0, 0)))), some (.inl l1), some (.inl l2), some (.inl l3), none] [] s := rfl
noncomputable def x1_copyFrom_b91_G (K91 : Sg → Nat → Nat → Int32 → Option Sg) (s : Sg) (g0 : Nat) (g1 : Nat) (l2 : Int32) : Option Sg :=
  gif ((l2 : Int32) < 6) (
    gd (inb l2 6) (
    match rN s 18 g1 (ix l2) with
    | 0 => (
      gd (inb l2 6) (
      let s2 := wN s 18 g0 (ix l2) 0
      K91 s2 g0 g1 (l2 + 1)))
    | t1 + 1 => (
      gd (inb l2 6) (
      let s3 := wN s 18 g0 (ix l2) (t1 + 1)
      K91 s3 g0 g1 (l2 + 1)))))
  (
    let s4 := wI s 1 g0 7 (rI s 1 g1 7)
    let s5 := wI s4 1 g0 8 (rI s4 1 g1 8)
    let s6 := wI s5 1 g0 9 (rI s5 1 g1 9)
    let s7 := wI s6 1 g0 10 (rI s6 1 g1 10)
    let s8 := wI s7 1 g0 11 (rI s7 1 g1 11)
    let s9 := wI s8 1 g0 12 (rI s8 1 g1 12)
    some s9)
noncomputable def x1_copyFrom_b91 : Nat → Sg → Nat → Nat → Int32 → Option Sg
  | 0 => fun _ _ _ _ => none
  | n + 1 => x1_copyFrom_b91_G (x1_copyFrom_b91 n)
noncomputable def t_x1_copyFrom_b91 (K91 : Sg → Nat → Nat → Int32 → Option Sg) : Bk Sg := (s_ldI 2 (s_ic 6 (s_clt
  (s_ldA 0 (s_getRv 1 6 18 (s_ldI 2 (s_ldA 1 (s_getRv 1 6 18 (s_ldI 2 (s_aaldL (s_aastL (s_inc 2 1 (s_goto (p_R 0 1 fun a0 => p_R 1 1 fun a1 => p_I 2 fun a2 => p_E fun s => K91 s a0 a1 a2)))))))))))
  (s_ldA 0 (s_ldA 1 (s_getI 1 7 (s_putI 1 7 (s_ldA 0 (s_ldA 1 (s_getI 1 8 (s_putI 1 8 (s_ldA 0 (s_ldA 1 (s_getI 1 9 (s_putI 1 9 (s_ldA 0 (s_ldA 1 (s_getI 1 10 (s_putI 1 10 (s_ldA 0 (s_ldA 1 (s_getI 1 11 (s_putI 1 11 (s_ldA 0 (s_ldA 1 (s_getI 1 12 (s_putI 1 12 (s_vret retV))))))))))))))))))))))))))))
set_option maxRecDepth 20000 in
theorem e_x1_copyFrom_b91 (K91 : Sg → Nat → Nat → Int32 → Option Sg) (s : Sg) (g0 : Nat) (g1 : Nat) (l2 : Int32) : x1_copyFrom_b91_G K91 s g0 g1 l2 = t_x1_copyFrom_b91 K91 [some (.inr (.inr (some (1, g0)))), some (.inr (.inr (some (1, g1)))), some (.inl l2)] [] s := rfl
noncomputable def x1_copyFrom_G (K91 : Sg → Nat → Nat → Int32 → Option Sg) (s : Sg) (g0 : Nat) (g1 : Nat) : Option Sg :=
  gd (g_cok 0 0 12 12 12) (
  let s1 := g_cpy s 12 g1 0 12 g0 0 12
  gd (g_cok 0 0 12 12 12) (
  let s2 := g_cpy s1 13 g1 0 13 g0 0 12
  gd (g_cok 0 0 12 12 12) (
  let s3 := g_cpy s2 14 g1 0 14 g0 0 12
  gd (g_cok 0 0 4 4 4) (
  let s4 := g_cpy s3 15 g1 0 15 g0 0 4
  gd (g_cok 0 0 6 6 6) (
  let s5 := g_cpy s4 16 g1 0 16 g0 0 6
  gd (g_cok 0 0 6 6 6) (
  let s6 := g_cpy s5 17 g1 0 17 g0 0 6
  K91 s6 g0 g1 0))))))
noncomputable def x1_copyFrom : Sg → Nat → Nat → Option Sg := x1_copyFrom_G (x1_copyFrom_b91 FU)
noncomputable def t_x1_copyFrom (K91 : Sg → Nat → Nat → Int32 → Option Sg) : Bk Sg := (s_ldA 1 (s_getRv 1 0 12 (s_ic 0 (s_ldA 0 (s_getRv 1 0 12 (s_ic 0 (s_ic 12 (s_copy 12 12 12 12 (s_ldA 1 (s_getRv 1 1 13 (s_ic 0 (s_ldA 0 (s_getRv 1 1 13 (s_ic 0 (s_ic 12 (s_copy 13 12 13 12 (s_ldA 1 (s_getRv 1 2 14 (s_ic 0 (s_ldA 0 (s_getRv 1 2 14 (s_ic 0 (s_ic 12 (s_copy 14 12 14 12 (s_ldA 1 (s_getRv 1 3 15 (s_ic 0 (s_ldA 0 (s_getRv 1 3 15 (s_ic 0 (s_ic 4 (s_copy 15 4 15 4 (s_ldA 1 (s_getRv 1 4 16 (s_ic 0 (s_ldA 0 (s_getRv 1 4 16 (s_ic 0 (s_ic 6 (s_copy 16 6 16 6 (s_ldA 1 (s_getRv 1 5 17 (s_ic 0 (s_ldA 0 (s_getRv 1 5 17 (s_ic 0 (s_ic 6 (s_copy 17 6 17 6 (s_ic 0 (s_stI 2 (p_R 0 1 fun a0 => p_R 1 1 fun a1 => p_I 2 fun a2 => p_E fun s => K91 s a0 a1 a2)))))))))))))))))))))))))))))))))))))))))))))))))))
set_option maxRecDepth 20000 in
theorem e_x1_copyFrom (K91 : Sg → Nat → Nat → Int32 → Option Sg) (s : Sg) (g0 : Nat) (g1 : Nat) : x1_copyFrom_G K91 s g0 g1 = t_x1_copyFrom K91 [some (.inr (.inr (some (1, g0)))), some (.inr (.inr (some (1, g1)))), none] [] s := rfl
noncomputable def x3_copyFrom_G (s : Sg) (g0 : Nat) (g1 : Nat) : Option Sg :=
  gd (g_cok 0 0 16 16 16) (
  let s1 := g_cpy s 20 g1 0 20 g0 0 16
  gd (g_cok 0 0 16 16 16) (
  let s2 := g_cpy s1 21 g1 0 21 g0 0 16
  gd (g_cok 0 0 16 16 16) (
  let s3 := g_cpy s2 22 g1 0 22 g0 0 16
  let s4 := wI s3 3 g0 3 (rI s3 3 g1 3)
  some s4)))
noncomputable def x3_copyFrom : Sg → Nat → Nat → Option Sg := x3_copyFrom_G
noncomputable def t_x3_copyFrom : Bk Sg := (s_ldA 1 (s_getRv 3 0 20 (s_ic 0 (s_ldA 0 (s_getRv 3 0 20 (s_ic 0 (s_ic 16 (s_copy 20 16 20 16 (s_ldA 1 (s_getRv 3 1 21 (s_ic 0 (s_ldA 0 (s_getRv 3 1 21 (s_ic 0 (s_ic 16 (s_copy 21 16 21 16 (s_ldA 1 (s_getRv 3 2 22 (s_ic 0 (s_ldA 0 (s_getRv 3 2 22 (s_ic 0 (s_ic 16 (s_copy 22 16 22 16 (s_ldA 0 (s_ldA 1 (s_getI 3 3 (s_putI 3 3 (s_vret retV)))))))))))))))))))))))))))))
set_option maxRecDepth 20000 in
theorem e_x3_copyFrom (s : Sg) (g0 : Nat) (g1 : Nat) : x3_copyFrom_G s g0 g1 = t_x3_copyFrom [some (.inr (.inr (some (3, g0)))), some (.inr (.inr (some (3, g1))))] [] s := rfl
noncomputable def x0_begin_G (c_x1_copyFrom : Sg → Nat → Nat → Option Sg) (c_x3_copyFrom : Sg → Nat → Nat → Option Sg) (s : Sg) : Option Sg :=
  (c_x1_copyFrom s 5 0).bind fun s1 => (
  (c_x3_copyFrom s1 1 0).bind fun s2 => (
  let s3 := wI s2 0 0 8 0
  let s4 := wI s3 0 0 7 (-1)
  some s4))
noncomputable def x0_begin : Sg → Option Sg := x0_begin_G x1_copyFrom x3_copyFrom
noncomputable def t_x0_begin (c_x1_copyFrom : Sg → Nat → Nat → Option Sg) (c_x3_copyFrom : Sg → Nat → Nat → Option Sg) : Bk Sg := (s_ldA 0 (s_getRc 0 4 1 5 (s_ldA 0 (s_getRc 0 0 1 0 (s_call (FW_x1_copyFrom c_x1_copyFrom) 2 (s_ldA 0 (s_getRc 0 5 3 1 (s_ldA 0 (s_getRc 0 1 3 0 (s_call (FW_x3_copyFrom c_x3_copyFrom) 2 (s_ldA 0 (s_ic 0 (s_putI 0 8 (s_ldA 0 (s_ic (-1) (s_putI 0 7 (s_vret retV)))))))))))))))))
set_option maxRecDepth 20000 in
theorem e_x0_begin (c_x1_copyFrom : Sg → Nat → Nat → Option Sg) (c_x3_copyFrom : Sg → Nat → Nat → Option Sg) (s : Sg) : x0_begin_G c_x1_copyFrom c_x3_copyFrom s = t_x0_begin c_x1_copyFrom c_x3_copyFrom [some (.inr (.inr (some (0, 0))))] [] s := rfl
noncomputable def x0_giveUp_G (c_x1_copyFrom : Sg → Nat → Nat → Option Sg) (c_x3_copyFrom : Sg → Nat → Nat → Option Sg) (s : Sg) : Option Sg :=
  (c_x1_copyFrom s 0 5).bind fun s1 => (
  (c_x3_copyFrom s1 0 1).bind fun s2 => (
  some s2))
noncomputable def x0_giveUp : Sg → Option Sg := x0_giveUp_G x1_copyFrom x3_copyFrom
noncomputable def t_x0_giveUp (c_x1_copyFrom : Sg → Nat → Nat → Option Sg) (c_x3_copyFrom : Sg → Nat → Nat → Option Sg) : Bk Sg := (s_ldA 0 (s_getRc 0 0 1 0 (s_ldA 0 (s_getRc 0 4 1 5 (s_call (FW_x1_copyFrom c_x1_copyFrom) 2 (s_ldA 0 (s_getRc 0 1 3 0 (s_ldA 0 (s_getRc 0 5 3 1 (s_call (FW_x3_copyFrom c_x3_copyFrom) 2 (s_vret retV)))))))))))
set_option maxRecDepth 20000 in
theorem e_x0_giveUp (c_x1_copyFrom : Sg → Nat → Nat → Option Sg) (c_x3_copyFrom : Sg → Nat → Nat → Option Sg) (s : Sg) : x0_giveUp_G c_x1_copyFrom c_x3_copyFrom s = t_x0_giveUp c_x1_copyFrom c_x3_copyFrom [some (.inr (.inr (some (0, 0))))] [] s := rfl
noncomputable def x1_isSplit_G (c_x1_has : Sg → Nat → Int32 → Option (Sg × Int32)) (s : Sg) (g0 : Nat) (l1 : Int32) : Option (Sg × Int32) :=
  (c_x1_has s g0 l1).bind fun q1 => (
  gif ((q1.2 : Int32) = 0) (
    gd (isB 0) (some (q1.1, 0)))
  (
    gif (((((rI q1.1 1 g0 9) >>> (l1 &&& 31)) &&& 1) : Int32) = 1) (
      gd (isB 1) (some (q1.1, 1)))
    (
      gd (isB 0) (some (q1.1, 0)))))
noncomputable def x1_isSplit : Sg → Nat → Int32 → Option (Sg × Int32) := x1_isSplit_G x1_has
noncomputable def t_x1_isSplit (c_x1_has : Sg → Nat → Int32 → Option (Sg × Int32)) : Bk (Sg × Int32) := (s_ldA 0 (s_ldI 1 (s_call (FW_x1_has c_x1_has) 2 (s_eq0
  (s_ic 0 (s_zret retI))
  (s_ldA 0 (s_getI 1 9 (s_ldI 1 (s_bin (fun x y => x >>> (y &&& 31)) (s_ic 1 (s_bin (fun x y => x &&& y) (s_ic 1 (s_ceq
    (s_ic 1 (s_goto (s_zret retI)))
    (s_ic 0 (s_zret retI))))))))))))))
set_option maxRecDepth 20000 in
theorem e_x1_isSplit (c_x1_has : Sg → Nat → Int32 → Option (Sg × Int32)) (s : Sg) (g0 : Nat) (l1 : Int32) : x1_isSplit_G c_x1_has s g0 l1 = t_x1_isSplit c_x1_has [some (.inr (.inr (some (1, g0)))), some (.inl l1)] [] s := rfl
noncomputable def x1_endsAfter_G (c_x1_has : Sg → Nat → Int32 → Option (Sg × Int32)) (s : Sg) (g0 : Nat) (l1 : Int32) : Option (Sg × Int32) :=
  (c_x1_has s g0 l1).bind fun q1 => (
  gif ((q1.2 : Int32) = 0) (
    gd (isB 0) (some (q1.1, 0)))
  (
    gif ((l1 : Int32) = ((rI q1.1 1 g0 7) - 1)) (
      gd (isB 1) (some (q1.1, 1)))
    (
      gif (((((rI q1.1 1 g0 8) >>> (l1 &&& 31)) &&& 1) : Int32) = 1) (
        gd (isB 1) (some (q1.1, 1)))
      (
        gd (isB 0) (some (q1.1, 0))))))
noncomputable def x1_endsAfter : Sg → Nat → Int32 → Option (Sg × Int32) := x1_endsAfter_G x1_has
noncomputable def t_x1_endsAfter (c_x1_has : Sg → Nat → Int32 → Option (Sg × Int32)) : Bk (Sg × Int32) := (s_ldA 0 (s_ldI 1 (s_call (FW_x1_has c_x1_has) 2 (s_eq0
  (s_ic 0 (s_zret retI))
  (s_ldI 1 (s_ldA 0 (s_getI 1 7 (s_ic 1 (s_bin (fun x y => x - y) (s_ceq
    (s_ic 1 (s_goto (s_zret retI)))
    (s_ldA 0 (s_getI 1 8 (s_ldI 1 (s_bin (fun x y => x >>> (y &&& 31)) (s_ic 1 (s_bin (fun x y => x &&& y) (s_ic 1 (s_ceq
      (s_ic 1 (s_goto (s_zret retI)))
      (s_ic 0 (s_zret retI))))))))))))))))))))
set_option maxRecDepth 20000 in
theorem e_x1_endsAfter (c_x1_has : Sg → Nat → Int32 → Option (Sg × Int32)) (s : Sg) (g0 : Nat) (l1 : Int32) : x1_endsAfter_G c_x1_has s g0 l1 = t_x1_endsAfter c_x1_has [some (.inr (.inr (some (1, g0)))), some (.inl l1)] [] s := rfl
noncomputable def x1_endsAt_G (c_x1_isSplit : Sg → Nat → Int32 → Option (Sg × Int32)) (c_x1_endsAfter : Sg → Nat → Int32 → Option (Sg × Int32)) (s : Sg) (g0 : Nat) (l1 : Int32) : Option (Sg × Int32) :=
  gd (¬ 2 = (0 : Int32)) (
  gif (((g_rem l1 2) : Int32) = 0) (
    gd (¬ 2 = (0 : Int32)) (
    (c_x1_isSplit s g0 (l1 / 2)).bind fun q1 => (
    gd (isB q1.2) (some (q1.1, q1.2)))))
  (
    gd (¬ 2 = (0 : Int32)) (
    (c_x1_endsAfter s g0 (l1 / 2)).bind fun q2 => (
    gd (isB q2.2) (some (q2.1, q2.2))))))
noncomputable def x1_endsAt : Sg → Nat → Int32 → Option (Sg × Int32) := x1_endsAt_G x1_isSplit x1_endsAfter
noncomputable def t_x1_endsAt (c_x1_isSplit : Sg → Nat → Int32 → Option (Sg × Int32)) (c_x1_endsAfter : Sg → Nat → Int32 → Option (Sg × Int32)) : Bk (Sg × Int32) := (s_ldI 1 (s_ic 2 (s_div g_rem (s_eq0
  (s_ldA 0 (s_ldI 1 (s_ic 2 (s_div (fun x y => x / y) (s_call (FW_x1_isSplit c_x1_isSplit) 2 (s_goto (s_zret retI)))))))
  (s_ldA 0 (s_ldI 1 (s_ic 2 (s_div (fun x y => x / y) (s_call (FW_x1_endsAfter c_x1_endsAfter) 2 (s_zret retI))))))))))
set_option maxRecDepth 20000 in
theorem e_x1_endsAt (c_x1_isSplit : Sg → Nat → Int32 → Option (Sg × Int32)) (c_x1_endsAfter : Sg → Nat → Int32 → Option (Sg × Int32)) (s : Sg) (g0 : Nat) (l1 : Int32) : x1_endsAt_G c_x1_isSplit c_x1_endsAfter s g0 l1 = t_x1_endsAt c_x1_isSplit c_x1_endsAfter [some (.inr (.inr (some (1, g0)))), some (.inl l1)] [] s := rfl
noncomputable def x1_pieceOf_G (c_x1_has : Sg → Nat → Int32 → Option (Sg × Int32)) (s : Sg) (g0 : Nat) (l1 : Int32) (l2 : Int32) (l3 : Int32) : Option (Sg × Int32) :=
  (c_x1_has s g0 l1).bind fun q1 => (
  gif ((q1.2 : Int32) = 0) (
    some (q1.1, 0))
  (
    gif ((l3 : Int32) = (2 * l1)) (
      gd (inb l1 12) (
      some (q1.1, (rI q1.1 13 g0 (ix l1)))))
    (
      gif ((l2 : Int32) = (2 * l1)) (
        gd (inb l1 12) (
        gd (inb l1 12) (
        some (q1.1, ((rI q1.1 12 g0 (ix l1)) - (rI q1.1 13 g0 (ix l1)))))))
      (
        gd (inb l1 12) (
        some (q1.1, (rI q1.1 12 g0 (ix l1))))))))
noncomputable def x1_pieceOf : Sg → Nat → Int32 → Int32 → Int32 → Option (Sg × Int32) := x1_pieceOf_G x1_has
noncomputable def t_x1_pieceOf (c_x1_has : Sg → Nat → Int32 → Option (Sg × Int32)) : Bk (Sg × Int32) := (s_ldA 0 (s_ldI 1 (s_call (FW_x1_has c_x1_has) 2 (s_eq0
  (s_ic 0 (s_iret retI))
  (s_ldI 3 (s_ic 2 (s_ldI 1 (s_bin (fun x y => x * y) (s_ceq
    (s_ldA 0 (s_getRv 1 1 13 (s_ldI 1 (s_iald 13 12 (s_iret retI)))))
    (s_ldI 2 (s_ic 2 (s_ldI 1 (s_bin (fun x y => x * y) (s_ceq
      (s_ldA 0 (s_getRv 1 0 12 (s_ldI 1 (s_iald 12 12 (s_ldA 0 (s_getRv 1 1 13 (s_ldI 1 (s_iald 13 12 (s_bin (fun x y => x - y) (s_goto (s_iret retI)))))))))))
      (s_ldA 0 (s_getRv 1 0 12 (s_ldI 1 (s_iald 12 12 (s_iret retI)))))))))))))))))))
set_option maxRecDepth 20000 in
theorem e_x1_pieceOf (c_x1_has : Sg → Nat → Int32 → Option (Sg × Int32)) (s : Sg) (g0 : Nat) (l1 : Int32) (l2 : Int32) (l3 : Int32) : x1_pieceOf_G c_x1_has s g0 l1 l2 l3 = t_x1_pieceOf c_x1_has [some (.inr (.inr (some (1, g0)))), some (.inl l1), some (.inl l2), some (.inl l3)] [] s := rfl
noncomputable def x2_measureUp_b35_G (K35 : Sg → Nat → Nat → Int32 → Int32 → Option Sg) (c_x1_pieceOf : Sg → Nat → Int32 → Int32 → Int32 → Option (Sg × Int32)) (s : Sg) (g0 : Nat) (g1 : Nat) (l2 : Int32) (l4 : Int32) : Option Sg :=
  gd (¬ 2 = (0 : Int32)) (
  gif ((((rI s 2 g0 2) / 2) : Int32) < l4) (
    some s)
  (
    (c_x1_pieceOf s g1 l4 l2 (rI s 2 g0 2)).bind fun q1 => (
    gif ((0 : Int32) < (rI q1.1 2 g0 4)) (
      let s2 := wI q1.1 2 g0 3 ((rI s 2 g0 3) + (q1.2 + 1))
      let s3 := wI s2 2 g0 4 ((rI s2 2 g0 4) + 1)
      K35 s3 g0 g1 l2 (l4 + 1))
    (
      let s4 := wI q1.1 2 g0 3 ((rI s 2 g0 3) + (q1.2 + 0))
      let s5 := wI s4 2 g0 4 ((rI s4 2 g0 4) + 1)
      K35 s5 g0 g1 l2 (l4 + 1)))))
noncomputable def x2_measureUp_b35 : Nat → Sg → Nat → Nat → Int32 → Int32 → Option Sg
  | 0 => fun _ _ _ _ _ => none
  | n + 1 => x2_measureUp_b35_G (x2_measureUp_b35 n) x1_pieceOf
noncomputable def t_x2_measureUp_b35 (K35 : Sg → Nat → Nat → Int32 → Int32 → Option Sg) (c_x1_pieceOf : Sg → Nat → Int32 → Int32 → Int32 → Option (Sg × Int32)) : Bk Sg := (s_ldI 4 (s_ldA 0 (s_getI 2 2 (s_ic 2 (s_div (fun x y => x / y) (s_cgt
  (s_vret retV)
  (s_ldA 0 (s_dup (s_getI 2 3 (s_ldA 1 (s_ldI 4 (s_ldI 2 (s_ldA 0 (s_getI 2 2 (s_call (FW_x1_pieceOf c_x1_pieceOf) 4 (s_ldA 0 (s_getI 2 4 (s_gt0
    (s_ic 1 (s_goto (s_bin (fun x y => x + y) (s_bin (fun x y => x + y) (s_putI 2 3 (s_ldA 0 (s_dup (s_getI 2 4 (s_ic 1 (s_bin (fun x y => x + y) (s_putI 2 4 (s_inc 4 1 (s_goto (p_R 0 2 fun a0 => p_R 1 1 fun a1 => p_I 2 fun a2 => p_I 4 fun a4 => p_E fun s => K35 s a0 a1 a2 a4))))))))))))))
    (s_ic 0 (s_bin (fun x y => x + y) (s_bin (fun x y => x + y) (s_putI 2 3 (s_ldA 0 (s_dup (s_getI 2 4 (s_ic 1 (s_bin (fun x y => x + y) (s_putI 2 4 (s_inc 4 1 (s_goto (p_R 0 2 fun a0 => p_R 1 1 fun a1 => p_I 2 fun a2 => p_I 4 fun a4 => p_E fun s => K35 s a0 a1 a2 a4)))))))))))))))))))))))))))))))
set_option maxRecDepth 20000 in
theorem e_x2_measureUp_b35 (K35 : Sg → Nat → Nat → Int32 → Int32 → Option Sg) (c_x1_pieceOf : Sg → Nat → Int32 → Int32 → Int32 → Option (Sg × Int32)) (s : Sg) (g0 : Nat) (g1 : Nat) (l2 : Int32) (l4 : Int32) : x2_measureUp_b35_G K35 c_x1_pieceOf s g0 g1 l2 l4 = t_x2_measureUp_b35 K35 c_x1_pieceOf [some (.inr (.inr (some (2, g0)))), some (.inr (.inr (some (1, g1)))), some (.inl l2), none, some (.inl l4)] [] s := rfl
noncomputable def x2_measureUp_G (K35 : Sg → Nat → Nat → Int32 → Int32 → Option Sg) (s : Sg) (g0 : Nat) (g1 : Nat) (l2 : Int32) (l3 : Int32) : Option Sg :=
  let s1 := wI s 2 g0 2 l3
  gd (¬ 2 = (0 : Int32)) (
  gif (((g_rem (rI s1 2 g0 2) 2) : Int32) = 0) (
    let s2 := wI s1 2 g0 3 1
    let s3 := wI s2 2 g0 4 0
    gd (¬ 2 = (0 : Int32)) (
    K35 s3 g0 g1 l2 ((l2 + 1) / 2)))
  (
    let s4 := wI s1 2 g0 3 0
    let s5 := wI s4 2 g0 4 0
    gd (¬ 2 = (0 : Int32)) (
    K35 s5 g0 g1 l2 ((l2 + 1) / 2))))
noncomputable def x2_measureUp : Sg → Nat → Nat → Int32 → Int32 → Option Sg := x2_measureUp_G (x2_measureUp_b35 FU)
noncomputable def t_x2_measureUp (K35 : Sg → Nat → Nat → Int32 → Int32 → Option Sg) : Bk Sg := (s_ldA 0 (s_ldI 3 (s_putI 2 2 (s_ldA 0 (s_ldA 0 (s_getI 2 2 (s_ic 2 (s_div g_rem (s_eq0
  (s_ic 1 (s_goto (s_putI 2 3 (s_ldA 0 (s_ic 0 (s_putI 2 4 (s_ldI 2 (s_ic 1 (s_bin (fun x y => x + y) (s_ic 2 (s_div (fun x y => x / y) (s_stI 4 (p_R 0 2 fun a0 => p_R 1 1 fun a1 => p_I 2 fun a2 => p_I 4 fun a4 => p_E fun s => K35 s a0 a1 a2 a4)))))))))))))
  (s_ic 0 (s_putI 2 3 (s_ldA 0 (s_ic 0 (s_putI 2 4 (s_ldI 2 (s_ic 1 (s_bin (fun x y => x + y) (s_ic 2 (s_div (fun x y => x / y) (s_stI 4 (p_R 0 2 fun a0 => p_R 1 1 fun a1 => p_I 2 fun a2 => p_I 4 fun a4 => p_E fun s => K35 s a0 a1 a2 a4)))))))))))))))))))))
set_option maxRecDepth 20000 in
theorem e_x2_measureUp (K35 : Sg → Nat → Nat → Int32 → Int32 → Option Sg) (s : Sg) (g0 : Nat) (g1 : Nat) (l2 : Int32) (l3 : Int32) : x2_measureUp_G K35 s g0 g1 l2 l3 = t_x2_measureUp K35 [some (.inr (.inr (some (2, g0)))), some (.inr (.inr (some (1, g1)))), some (.inl l2), some (.inl l3), none] [] s := rfl
noncomputable def x1_lawOf_G (s : Sg) (g0 : Nat) (l1 : Int32) : Option (Sg × Nat) :=
  gif ((l1 : Int32) < 0) (
    some (s, 0))
  (
    gif ((l1 : Int32) < (rI s 1 g0 11)) (
      gif ((l1 : Int32) < 6) (
        gd (inb l1 6) (
        match rN s 18 g0 (ix l1) with
        | 0 => (
          some (s, 0))
        | t1 + 1 => (
          some (s, t1 + 1))))
      (
        some (s, 0)))
    (
      some (s, 0)))
noncomputable def x1_lawOf : Sg → Nat → Int32 → Option (Sg × Nat) := x1_lawOf_G
noncomputable def t_x1_lawOf : Bk (Sg × Nat) := (s_ldI 1 (s_lt0
  (s_null (s_aret retN))
  (s_ldI 1 (s_ldA 0 (s_getI 1 11 (s_clt
    (s_ldI 1 (s_ic 6 (s_clt
      (s_ldA 0 (s_getRv 1 6 18 (s_ldI 1 (s_aaldL (s_goto (s_aret retN))))))
      (s_null (s_aret retN)))))
    (s_null (s_aret retN))))))))
set_option maxRecDepth 20000 in
theorem e_x1_lawOf (s : Sg) (g0 : Nat) (l1 : Int32) : x1_lawOf_G s g0 l1 = t_x1_lawOf [some (.inr (.inr (some (1, g0)))), some (.inl l1)] [] s := rfl
noncomputable def x1_lawInForce_G (c_x1_lawOf : Sg → Nat → Int32 → Option (Sg × Nat)) (s : Sg) (g0 : Nat) : Option (Sg × Nat) :=
  (c_x1_lawOf s g0 (rI s 1 g0 12)).bind fun q1 => (
  match q1.2 with
  | 0 => (
    some (q1.1, 0))
  | t2 + 1 => (
    some (q1.1, t2 + 1)))
noncomputable def x1_lawInForce : Sg → Nat → Option (Sg × Nat) := x1_lawInForce_G x1_lawOf
noncomputable def t_x1_lawInForce (c_x1_lawOf : Sg → Nat → Int32 → Option (Sg × Nat)) : Bk (Sg × Nat) := (s_ldA 0 (s_ldA 0 (s_getI 1 12 (s_call (FW_x1_lawOf c_x1_lawOf) 2 (s_aret retN)))))
set_option maxRecDepth 20000 in
theorem e_x1_lawInForce (c_x1_lawOf : Sg → Nat → Int32 → Option (Sg × Nat)) (s : Sg) (g0 : Nat) : x1_lawInForce_G c_x1_lawOf s g0 = t_x1_lawInForce c_x1_lawOf [some (.inr (.inr (some (1, g0))))] [] s := rfl
noncomputable def x2_gatherFacts_b108_G (s : Sg) (g0 : Nat) (g1 : Nat) (h0 : Nat) (y1 : Int32) (y2 : Int32) : Option Sg :=
  gd (inb y1 8) (
  let s1 := wI s 19 h0 (ix y1) y2
  gd (inb 0 4) (
  gd (inb 7 8) (
  let s2 := wI s1 19 g0 (ix 7) (rI s1 15 g1 (ix 0))
  gd (inb 2 4) (
  gd (inb 6 8) (
  let s3 := wI s2 19 g0 (ix 6) (rI s2 15 g1 (ix 2))
  some s3)))))
noncomputable def x2_gatherFacts_b108 : Sg → Nat → Nat → Nat → Int32 → Int32 → Option Sg := x2_gatherFacts_b108_G
noncomputable def t_x2_gatherFacts_b108 : Bk Sg := (s_iast 19 8 (s_ldA 0 (s_getRv 2 0 19 (s_ic 7 (s_ldA 1 (s_getRv 1 3 15 (s_ic 0 (s_iald 15 4 (s_iast 19 8 (s_ldA 0 (s_getRv 2 0 19 (s_ic 6 (s_ldA 1 (s_getRv 1 3 15 (s_ic 2 (s_iald 15 4 (s_iast 19 8 (s_vret retV))))))))))))))))))
set_option maxRecDepth 20000 in
theorem e_x2_gatherFacts_b108 (s : Sg) (g0 : Nat) (g1 : Nat) (h0 : Nat) (y1 : Int32) (y2 : Int32) : x2_gatherFacts_b108_G s g0 g1 h0 y1 y2 = t_x2_gatherFacts_b108 [some (.inr (.inr (some (2, g0)))), some (.inr (.inr (some (1, g1)))), none, none, none] [.inl y2, .inl y1, .inr (.inr (some (19, h0)))] s := rfl
noncomputable def x2_gatherFacts_b56_G (K108 : Sg → Nat → Nat → Nat → Int32 → Int32 → Option Sg) (c_x1_has : Sg → Nat → Int32 → Option (Sg × Int32)) (s : Sg) (g0 : Nat) (g1 : Nat) (l4 : Int32) (h0 : Nat) (y1 : Int32) (y2 : Int32) : Option Sg :=
  gd (inb y1 8) (
  let s1 := wI s 19 h0 (ix y1) y2
  gif (((rI s1 2 g0 2) : Int32) = ((2 * (rI s1 1 g1 7)) - 1)) (
    gd (inb 4 8) (
    let s2 := wI s1 19 g0 (ix 4) 1
    (c_x1_has s2 g1 l4).bind fun q3 => (
    gif ((q3.2 : Int32) = 0) (
      K108 q3.1 g0 g1 g0 5 0)
    (
      gd (inb l4 12) (
      K108 q3.1 g0 g1 g0 5 (rI q3.1 14 g1 (ix l4)))))))
  (
    gd (inb 4 8) (
    let s4 := wI s1 19 g0 (ix 4) 0
    (c_x1_has s4 g1 l4).bind fun q5 => (
    gif ((q5.2 : Int32) = 0) (
      K108 q5.1 g0 g1 g0 5 0)
    (
      gd (inb l4 12) (
      K108 q5.1 g0 g1 g0 5 (rI q5.1 14 g1 (ix l4))))))))
noncomputable def x2_gatherFacts_b56 : Sg → Nat → Nat → Int32 → Nat → Int32 → Int32 → Option Sg := x2_gatherFacts_b56_G (x2_gatherFacts_b108) x1_has
noncomputable def t_x2_gatherFacts_b56 (K108 : Sg → Nat → Nat → Nat → Int32 → Int32 → Option Sg) (c_x1_has : Sg → Nat → Int32 → Option (Sg × Int32)) : Bk Sg := (s_iast 19 8 (s_ldA 0 (s_getRv 2 0 19 (s_ic 4 (s_ldA 0 (s_getI 2 2 (s_ic 2 (s_ldA 1 (s_getI 1 7 (s_bin (fun x y => x * y) (s_ic 1 (s_bin (fun x y => x - y) (s_ceq
  (s_ic 1 (s_goto (s_iast 19 8 (s_ldA 0 (s_getRv 2 0 19 (s_ic 5 (s_ldA 1 (s_ldI 4 (s_call (FW_x1_has c_x1_has) 2 (s_eq0
    (s_ic 0 (p_R 0 2 fun a0 => p_R 1 1 fun a1 => q_I fun b2 => q_I fun b1 => q_R 19 fun b0 => p_E fun s => K108 s a0 a1 b0 b1 b2))
    (s_ldA 1 (s_getRv 1 2 14 (s_ldI 4 (s_iald 14 12 (s_goto (p_R 0 2 fun a0 => p_R 1 1 fun a1 => q_I fun b2 => q_I fun b1 => q_R 19 fun b0 => p_E fun s => K108 s a0 a1 b0 b1 b2))))))))))))))))
  (s_ic 0 (s_iast 19 8 (s_ldA 0 (s_getRv 2 0 19 (s_ic 5 (s_ldA 1 (s_ldI 4 (s_call (FW_x1_has c_x1_has) 2 (s_eq0
    (s_ic 0 (p_R 0 2 fun a0 => p_R 1 1 fun a1 => q_I fun b2 => q_I fun b1 => q_R 19 fun b0 => p_E fun s => K108 s a0 a1 b0 b1 b2))
    (s_ldA 1 (s_getRv 1 2 14 (s_ldI 4 (s_iald 14 12 (s_goto (p_R 0 2 fun a0 => p_R 1 1 fun a1 => q_I fun b2 => q_I fun b1 => q_R 19 fun b0 => p_E fun s => K108 s a0 a1 b0 b1 b2))))))))))))))))))))))))))))
set_option maxRecDepth 20000 in
theorem e_x2_gatherFacts_b56 (K108 : Sg → Nat → Nat → Nat → Int32 → Int32 → Option Sg) (c_x1_has : Sg → Nat → Int32 → Option (Sg × Int32)) (s : Sg) (g0 : Nat) (g1 : Nat) (l4 : Int32) (h0 : Nat) (y1 : Int32) (y2 : Int32) : x2_gatherFacts_b56_G K108 c_x1_has s g0 g1 l4 h0 y1 y2 = t_x2_gatherFacts_b56 K108 c_x1_has [some (.inr (.inr (some (2, g0)))), some (.inr (.inr (some (1, g1)))), none, none, some (.inl l4)] [.inl y2, .inl y1, .inr (.inr (some (19, h0)))] s := rfl
noncomputable def x2_gatherFacts_G (K56 : Sg → Nat → Nat → Int32 → Nat → Int32 → Int32 → Option Sg) (s : Sg) (g0 : Nat) (g1 : Nat) (l2 : Int32) (l3 : Int32) : Option Sg :=
  gd (¬ 2 = (0 : Int32)) (
  gd (inb 0 8) (
  let s1 := wI s 19 g0 (ix 0) l3
  gd (inb 1 8) (
  let s2 := wI s1 19 g0 (ix 1) (rI s1 2 g0 4)
  gd (inb 2 8) (
  let s3 := wI s2 19 g0 (ix 2) (l2 - (rI s2 2 g0 3))
  gd (¬ 2 = (0 : Int32)) (
  gif (((g_rem (rI s3 2 g0 2) 2) : Int32) = 0) (
    K56 s3 g0 g1 ((rI s 2 g0 2) / 2) g0 3 1)
  (
    K56 s3 g0 g1 ((rI s 2 g0 2) / 2) g0 3 0))))))
noncomputable def x2_gatherFacts : Sg → Nat → Nat → Int32 → Int32 → Option Sg := x2_gatherFacts_G (x2_gatherFacts_b56)
noncomputable def t_x2_gatherFacts (K56 : Sg → Nat → Nat → Int32 → Nat → Int32 → Int32 → Option Sg) : Bk Sg := (s_ldA 0 (s_getI 2 2 (s_ic 2 (s_div (fun x y => x / y) (s_stI 4 (s_ldA 0 (s_getRv 2 0 19 (s_ic 0 (s_ldI 3 (s_iast 19 8 (s_ldA 0 (s_getRv 2 0 19 (s_ic 1 (s_ldA 0 (s_getI 2 4 (s_iast 19 8 (s_ldA 0 (s_getRv 2 0 19 (s_ic 2 (s_ldI 2 (s_ldA 0 (s_getI 2 3 (s_bin (fun x y => x - y) (s_iast 19 8 (s_ldA 0 (s_getRv 2 0 19 (s_ic 3 (s_ldA 0 (s_getI 2 2 (s_ic 2 (s_div g_rem (s_eq0
  (s_ic 1 (s_goto (p_R 0 2 fun a0 => p_R 1 1 fun a1 => p_I 4 fun a4 => q_I fun b2 => q_I fun b1 => q_R 19 fun b0 => p_E fun s => K56 s a0 a1 a4 b0 b1 b2)))
  (s_ic 0 (p_R 0 2 fun a0 => p_R 1 1 fun a1 => p_I 4 fun a4 => q_I fun b2 => q_I fun b1 => q_R 19 fun b0 => p_E fun s => K56 s a0 a1 a4 b0 b1 b2))))))))))))))))))))))))))))))))))
set_option maxRecDepth 20000 in
theorem e_x2_gatherFacts (K56 : Sg → Nat → Nat → Int32 → Nat → Int32 → Int32 → Option Sg) (s : Sg) (g0 : Nat) (g1 : Nat) (l2 : Int32) (l3 : Int32) : x2_gatherFacts_G K56 s g0 g1 l2 l3 = t_x2_gatherFacts K56 [some (.inr (.inr (some (2, g0)))), some (.inr (.inr (some (1, g1)))), some (.inl l2), some (.inl l3), none] [] s := rfl
noncomputable def x4_combine_b186_G (s : Sg) (g0 : Nat) (l6 : Int64) : Option (Sg × Int64) :=
  gif (((rI s 4 g0 1) : Int32) = 0) (
    gif ((0 : Int32) < (lg_cmp l6 1000000000)) (
      gd (isB 1) (
      let s1 := wI s 4 g0 1 1
      some (s1, l6)))
    (
      gif (((lg_cmp l6 (-1000000000)) : Int32) < 0) (
        gd (isB 1) (
        let s2 := wI s 4 g0 1 1
        some (s2, l6)))
      (
        gd (isB 0) (
        let s3 := wI s 4 g0 1 0
        some (s3, l6)))))
  (
    gd (isB 1) (
    let s4 := wI s 4 g0 1 1
    some (s4, l6)))
noncomputable def x4_combine_b186 : Sg → Nat → Int64 → Option (Sg × Int64) := x4_combine_b186_G
noncomputable def t_x4_combine_b186 : Bk (Sg × Int64) := (s_ldA 0 (s_ldA 0 (s_getI 4 1 (s_eq0
  (s_ldL 6 (s_lc 1000000000 (s_lcmp (s_gt0
    (s_ic 1 (s_goto (s_putZ 4 1 (s_ldL 6 (s_lret retL)))))
    (s_ldL 6 (s_lc (-1000000000) (s_lcmp (s_lt0
      (s_ic 1 (s_goto (s_putZ 4 1 (s_ldL 6 (s_lret retL)))))
      (s_ic 0 (s_putZ 4 1 (s_ldL 6 (s_lret retL))))))))))))
  (s_ic 1 (s_goto (s_putZ 4 1 (s_ldL 6 (s_lret retL)))))))))
set_option maxRecDepth 20000 in
theorem e_x4_combine_b186 (s : Sg) (g0 : Nat) (l6 : Int64) : x4_combine_b186_G s g0 l6 = t_x4_combine_b186 [some (.inr (.inr (some (4, g0)))), none, none, none, none, none, some (.inr (.inl l6)), none] [] s := rfl
noncomputable def x4_combine_G (K186 : Sg → Nat → Int64 → Option (Sg × Int64)) (s : Sg) (g0 : Nat) (l1 : Int32) (l2 : Int64) (l4 : Int64) : Option (Sg × Int64) :=
  gif ((l1 : Int32) = 7) (
    K186 s g0 (l2 + l4))
  (
  gif ((l1 : Int32) = 8) (
    K186 s g0 (l2 - l4))
  (
  gif ((l1 : Int32) = 9) (
    K186 s g0 (l2 * l4))
  (
  gif ((l1 : Int32) = 10) (
    gif (((lg_cmp l4 0) : Int32) = 0) (
      gd (isB 1) (
      let s1 := wI s 4 g0 1 1
      gif (((lg_cmp l4 0) : Int32) = 0) (
        K186 s1 g0 0)
      (
        gd (¬ l4 = (0 : Int64)) (
        K186 s1 g0 (l2 / l4)))))
    (
      gd (isB 0) (
      let s2 := wI s 4 g0 1 0
      gif (((lg_cmp l4 0) : Int32) = 0) (
        K186 s2 g0 0)
      (
        gd (¬ l4 = (0 : Int64)) (
        K186 s2 g0 (l2 / l4))))))
  (
  gif ((l1 : Int32) = 11) (
    gif (((lg_cmp l4 0) : Int32) = 0) (
      gd (isB 1) (
      let s3 := wI s 4 g0 1 1
      gif (((lg_cmp l4 0) : Int32) = 0) (
        K186 s3 g0 0)
      (
        gd (¬ l4 = (0 : Int64)) (
        K186 s3 g0 (g_lrem l2 l4)))))
    (
      gd (isB 0) (
      let s4 := wI s 4 g0 1 0
      gif (((lg_cmp l4 0) : Int32) = 0) (
        K186 s4 g0 0)
      (
        gd (¬ l4 = (0 : Int64)) (
        K186 s4 g0 (g_lrem l2 l4))))))
  (
  gif ((l1 : Int32) = 12) (
    gif (((lg_cmp l2 l4) : Int32) < 0) (
      some (s, 1))
    (
      some (s, 0)))
  (
  gif ((l1 : Int32) = 13) (
    gif ((0 : Int32) < (lg_cmp l2 l4)) (
      some (s, 1))
    (
      some (s, 0)))
  (
    gif (((lg_cmp l2 l4) : Int32) = 0) (
      some (s, 1))
    (
      some (s, 0)))))))))
noncomputable def x4_combine : Sg → Nat → Int32 → Int64 → Int64 → Option (Sg × Int64) := x4_combine_G (x4_combine_b186)
noncomputable def t_x4_combine (K186 : Sg → Nat → Int64 → Option (Sg × Int64)) : Bk (Sg × Int64) := (s_lc 0 (s_stL 6 (s_ldI 1 (s_sw [(7, (s_ldL 2 (s_ldL 4 (s_lbin (fun x y => x + y) (s_stL 6 (s_goto (p_R 0 4 fun a0 => p_L 6 fun a6 => p_E fun s => K186 s a0 a6))))))),
  (8, (s_ldL 2 (s_ldL 4 (s_lbin (fun x y => x - y) (s_stL 6 (s_goto (p_R 0 4 fun a0 => p_L 6 fun a6 => p_E fun s => K186 s a0 a6))))))),
  (9, (s_ldL 2 (s_ldL 4 (s_lbin (fun x y => x * y) (s_stL 6 (s_goto (p_R 0 4 fun a0 => p_L 6 fun a6 => p_E fun s => K186 s a0 a6))))))),
  (10, (s_ldA 0 (s_ldL 4 (s_lc 0 (s_lcmp (s_eq0
    (s_ic 1 (s_goto (s_putZ 4 1 (s_ldL 4 (s_lc 0 (s_lcmp (s_eq0
      (s_lc 0 (s_goto (s_stL 6 (s_goto (p_R 0 4 fun a0 => p_L 6 fun a6 => p_E fun s => K186 s a0 a6)))))
      (s_ldL 2 (s_ldL 4 (s_ldivr (fun x y => x / y) (s_stL 6 (s_goto (p_R 0 4 fun a0 => p_L 6 fun a6 => p_E fun s => K186 s a0 a6)))))))))))))
    (s_ic 0 (s_putZ 4 1 (s_ldL 4 (s_lc 0 (s_lcmp (s_eq0
      (s_lc 0 (s_goto (s_stL 6 (s_goto (p_R 0 4 fun a0 => p_L 6 fun a6 => p_E fun s => K186 s a0 a6)))))
      (s_ldL 2 (s_ldL 4 (s_ldivr (fun x y => x / y) (s_stL 6 (s_goto (p_R 0 4 fun a0 => p_L 6 fun a6 => p_E fun s => K186 s a0 a6)))))))))))))))))),
  (11, (s_ldA 0 (s_ldL 4 (s_lc 0 (s_lcmp (s_eq0
    (s_ic 1 (s_goto (s_putZ 4 1 (s_ldL 4 (s_lc 0 (s_lcmp (s_eq0
      (s_lc 0 (s_goto (s_stL 6 (s_goto (p_R 0 4 fun a0 => p_L 6 fun a6 => p_E fun s => K186 s a0 a6)))))
      (s_ldL 2 (s_ldL 4 (s_ldivr g_lrem (s_stL 6 (s_goto (p_R 0 4 fun a0 => p_L 6 fun a6 => p_E fun s => K186 s a0 a6)))))))))))))
    (s_ic 0 (s_putZ 4 1 (s_ldL 4 (s_lc 0 (s_lcmp (s_eq0
      (s_lc 0 (s_goto (s_stL 6 (s_goto (p_R 0 4 fun a0 => p_L 6 fun a6 => p_E fun s => K186 s a0 a6)))))
      (s_ldL 2 (s_ldL 4 (s_ldivr g_lrem (s_stL 6 (s_goto (p_R 0 4 fun a0 => p_L 6 fun a6 => p_E fun s => K186 s a0 a6)))))))))))))))))),
  (12, (s_ldL 2 (s_ldL 4 (s_lcmp (s_lt0
    (s_lc 1 (s_goto (s_lret retL)))
    (s_lc 0 (s_lret retL))))))),
  (13, (s_ldL 2 (s_ldL 4 (s_lcmp (s_gt0
    (s_lc 1 (s_goto (s_lret retL)))
    (s_lc 0 (s_lret retL)))))))]
  (s_ldL 2 (s_ldL 4 (s_lcmp (s_eq0
    (s_lc 1 (s_goto (s_lret retL)))
    (s_lc 0 (s_lret retL))))))))))
set_option maxRecDepth 20000 in
theorem e_x4_combine (K186 : Sg → Nat → Int64 → Option (Sg × Int64)) (s : Sg) (g0 : Nat) (l1 : Int32) (l2 : Int64) (l4 : Int64) : x4_combine_G K186 s g0 l1 l2 l4 = t_x4_combine K186 [some (.inr (.inr (some (4, g0)))), some (.inl l1), some (.inr (.inl l2)), none, some (.inr (.inl l4)), none, none, none] [] s := rfl
noncomputable def x4_valueOf_b215_G (K20 : Sg → Nat → Nat → Nat → Nat → Int32 → Int32 → Int32 → Option (Sg × Int64)) (c_x4_combine : Sg → Nat → Int32 → Int64 → Int64 → Option (Sg × Int64)) (s : Sg) (g0 : Nat) (k3 : Nat) (g3 : Nat) (g4 : Nat) (l5 : Int32) (l6 : Int32) (l7 : Int32) (l8 : Int32) (l10 : Int64) : Option (Sg × Int64) :=
  gif ((l8 : Int32) = 4) (
    K20 s g0 k3 g3 g4 (l5 + (-1)) l6 (l7 + 1))
  (
    gif ((l8 : Int32) = 5) (
      K20 s g0 k3 g3 g4 (l5 + (-1)) l6 (l7 + 1))
    (
      gif ((l5 : Int32) < 2) (
        gd (isB 1) (
        let s1 := wI s 4 g0 1 1
        some (s1, 0)))
      (
        gd (inb ((l5 + (-1)) - 1) 64) (
        (c_x4_combine s g0 l8 (rL s 23 g0 (ix ((l5 + (-1)) - 1))) l10).bind fun q2 => (
        gd (inb ((l5 + (-1)) - 1) 64) (
        let s3 := wL q2.1 23 g0 (ix ((l5 + (-1)) - 1)) q2.2
        gif (((rI s3 4 g0 1) : Int32) = 0) (
          K20 s3 g0 k3 g3 g4 (l5 + (-1)) l6 (l7 + 1))
        (
          some (s3, 0))))))))
noncomputable def x4_valueOf_b215 (K20 : Sg → Nat → Nat → Nat → Nat → Int32 → Int32 → Int32 → Option (Sg × Int64)) : Sg → Nat → Nat → Nat → Nat → Int32 → Int32 → Int32 → Int32 → Int64 → Option (Sg × Int64) := x4_valueOf_b215_G K20 x4_combine
noncomputable def t_x4_valueOf_b215 (K20 : Sg → Nat → Nat → Nat → Nat → Int32 → Int32 → Int32 → Option (Sg × Int64)) (c_x4_combine : Sg → Nat → Int32 → Int64 → Int64 → Option (Sg × Int64)) : Bk (Sg × Int64) := (s_ldI 8 (s_ic 4 (s_ceq
  (s_inc 5 (-1) (s_goto (s_inc 7 1 (s_goto (p_R 0 4 fun a0 => p_F 3 fun k3 a3 => p_R 4 36 fun a4 => p_I 5 fun a5 => p_I 6 fun a6 => p_I 7 fun a7 => p_E fun s => K20 s a0 k3 a3 a4 a5 a6 a7)))))
  (s_ldI 8 (s_ic 5 (s_ceq
    (s_inc 5 (-1) (s_goto (s_inc 7 1 (s_goto (p_R 0 4 fun a0 => p_F 3 fun k3 a3 => p_R 4 36 fun a4 => p_I 5 fun a5 => p_I 6 fun a6 => p_I 7 fun a7 => p_E fun s => K20 s a0 k3 a3 a4 a5 a6 a7)))))
    (s_ldI 5 (s_ic 2 (s_clt
      (s_goto (s_ldA 0 (s_ic 1 (s_putZ 4 1 (s_lc 0 (s_lret retL))))))
      (s_inc 5 (-1) (s_ldA 0 (s_getRv 4 0 23 (s_ldI 5 (s_ic 1 (s_bin (fun x y => x - y) (s_ldA 0 (s_ldI 8 (s_ldA 0 (s_getRv 4 0 23 (s_ldI 5 (s_ic 1 (s_bin (fun x y => x - y) (s_lald 23 64 (s_ldL 10 (s_call (FW_x4_combine c_x4_combine) 4 (s_last 23 64 (s_ldA 0 (s_getI 4 1 (s_eq0
        (s_inc 7 1 (s_goto (p_R 0 4 fun a0 => p_F 3 fun k3 a3 => p_R 4 36 fun a4 => p_I 5 fun a5 => p_I 6 fun a6 => p_I 7 fun a7 => p_E fun s => K20 s a0 k3 a3 a4 a5 a6 a7)))
        (s_lc 0 (s_lret retL)))))))))))))))))))))))))))))))
set_option maxRecDepth 20000 in
theorem e_x4_valueOf_b215 (K20 : Sg → Nat → Nat → Nat → Nat → Int32 → Int32 → Int32 → Option (Sg × Int64)) (c_x4_combine : Sg → Nat → Int32 → Int64 → Int64 → Option (Sg × Int64)) (s : Sg) (g0 : Nat) (k3 : Nat) (g3 : Nat) (g4 : Nat) (l5 : Int32) (l6 : Int32) (l7 : Int32) (l8 : Int32) (l10 : Int64) : x4_valueOf_b215_G K20 c_x4_combine s g0 k3 g3 g4 l5 l6 l7 l8 l10 = t_x4_valueOf_b215 K20 c_x4_combine [some (.inr (.inr (some (4, g0)))), none, none, some (.inr (.inr (some (k3, g3)))), some (.inr (.inr (some (36, g4)))), some (.inl l5), some (.inl l6), some (.inl l7), some (.inl l8), none, some (.inr (.inl l10)), none] [] s := rfl
noncomputable def x4_valueOf_b100_G (K20 : Sg → Nat → Nat → Nat → Nat → Int32 → Int32 → Int32 → Option (Sg × Int64)) (s : Sg) (g0 : Nat) (k3 : Nat) (g3 : Nat) (g4 : Nat) (l5 : Int32) (l6 : Int32) (l7 : Int32) (l8 : Int32) (l9 : Int32) : Option (Sg × Int64) :=
  gif ((l8 : Int32) = 1) (
    gd (inb l5 64) (
    let s1 := wL s 23 g0 (ix l5) (Int32.toInt64 l9)
    K20 s1 g0 k3 g3 g4 (l5 + 1) l6 (l7 + 1)))
  (
    gd (g_ety k3 = 0) (gd (inb l9 (aln s k3 g3)) (
    gd (inb l5 64) (
    let s2 := wL s 23 g0 (ix l5) (Int32.toInt64 (rI s k3 g3 (ix l9)))
    K20 s2 g0 k3 g3 g4 (l5 + 1) l6 (l7 + 1)))))
noncomputable def x4_valueOf_b100 (K20 : Sg → Nat → Nat → Nat → Nat → Int32 → Int32 → Int32 → Option (Sg × Int64)) : Sg → Nat → Nat → Nat → Nat → Int32 → Int32 → Int32 → Int32 → Int32 → Option (Sg × Int64) := x4_valueOf_b100_G K20
noncomputable def t_x4_valueOf_b100 (K20 : Sg → Nat → Nat → Nat → Nat → Int32 → Int32 → Int32 → Option (Sg × Int64)) : Bk (Sg × Int64) := (s_ldA 0 (s_getRv 4 0 23 (s_ldI 5 (s_ldI 8 (s_ic 1 (s_ceq
  (s_ldI 9 (s_i2l (s_goto (s_last 23 64 (s_inc 5 1 (s_goto (s_inc 7 1 (s_goto (p_R 0 4 fun a0 => p_F 3 fun k3 a3 => p_R 4 36 fun a4 => p_I 5 fun a5 => p_I 6 fun a6 => p_I 7 fun a7 => p_E fun s => K20 s a0 k3 a3 a4 a5 a6 a7)))))))))
  (s_ldA 3 (s_ldI 9 (s_ialdV (s_i2l (s_last 23 64 (s_inc 5 1 (s_goto (s_inc 7 1 (s_goto (p_R 0 4 fun a0 => p_F 3 fun k3 a3 => p_R 4 36 fun a4 => p_I 5 fun a5 => p_I 6 fun a6 => p_I 7 fun a7 => p_E fun s => K20 s a0 k3 a3 a4 a5 a6 a7))))))))))))))))
set_option maxRecDepth 20000 in
theorem e_x4_valueOf_b100 (K20 : Sg → Nat → Nat → Nat → Nat → Int32 → Int32 → Int32 → Option (Sg × Int64)) (s : Sg) (g0 : Nat) (k3 : Nat) (g3 : Nat) (g4 : Nat) (l5 : Int32) (l6 : Int32) (l7 : Int32) (l8 : Int32) (l9 : Int32) : x4_valueOf_b100_G K20 s g0 k3 g3 g4 l5 l6 l7 l8 l9 = t_x4_valueOf_b100 K20 [some (.inr (.inr (some (4, g0)))), none, none, some (.inr (.inr (some (k3, g3)))), some (.inr (.inr (some (36, g4)))), some (.inl l5), some (.inl l6), some (.inl l7), some (.inl l8), some (.inl l9), none, none] [] s := rfl
noncomputable def x4_valueOf_b77_G (K100 : Sg → Nat → Nat → Nat → Nat → Int32 → Int32 → Int32 → Int32 → Int32 → Option (Sg × Int64)) (s : Sg) (g0 : Nat) (k3 : Nat) (g3 : Nat) (g4 : Nat) (l5 : Int32) (l6 : Int32) (l7 : Int32) (l8 : Int32) (l9 : Int32) : Option (Sg × Int64) :=
  gif ((l5 : Int32) < 64) (
    gif ((l8 : Int32) = 2) (
      gd (g_ety k3 = 0) (
      gif ((l9 : Int32) < (Int32.ofNat (aln s k3 g3))) (
        K100 s g0 k3 g3 g4 l5 l6 l7 l8 l9)
      (
        gd (isB 1) (
        let s1 := wI s 4 g0 1 1
        some (s1, 0)))))
    (
      K100 s g0 k3 g3 g4 l5 l6 l7 l8 l9))
  (
    gd (isB 1) (
    let s2 := wI s 4 g0 1 1
    some (s2, 0)))
noncomputable def x4_valueOf_b77 (K20 : Sg → Nat → Nat → Nat → Nat → Int32 → Int32 → Int32 → Option (Sg × Int64)) : Sg → Nat → Nat → Nat → Nat → Int32 → Int32 → Int32 → Int32 → Int32 → Option (Sg × Int64) := x4_valueOf_b77_G (x4_valueOf_b100 K20)
noncomputable def t_x4_valueOf_b77 (K100 : Sg → Nat → Nat → Nat → Nat → Int32 → Int32 → Int32 → Int32 → Int32 → Option (Sg × Int64)) : Bk (Sg × Int64) := (s_ldI 5 (s_ic 64 (s_clt
  (s_ldI 8 (s_ic 2 (s_ceq
    (s_ldI 9 (s_ldA 3 (s_alenV (s_clt
      (p_R 0 4 fun a0 => p_F 3 fun k3 a3 => p_R 4 36 fun a4 => p_I 5 fun a5 => p_I 6 fun a6 => p_I 7 fun a7 => p_I 8 fun a8 => p_I 9 fun a9 => p_E fun s => K100 s a0 k3 a3 a4 a5 a6 a7 a8 a9)
      (s_goto (s_ldA 0 (s_ic 1 (s_putZ 4 1 (s_lc 0 (s_lret retL))))))))))
    (p_R 0 4 fun a0 => p_F 3 fun k3 a3 => p_R 4 36 fun a4 => p_I 5 fun a5 => p_I 6 fun a6 => p_I 7 fun a7 => p_I 8 fun a8 => p_I 9 fun a9 => p_E fun s => K100 s a0 k3 a3 a4 a5 a6 a7 a8 a9))))
  (s_ldA 0 (s_ic 1 (s_putZ 4 1 (s_lc 0 (s_lret retL))))))))
set_option maxRecDepth 20000 in
theorem e_x4_valueOf_b77 (K100 : Sg → Nat → Nat → Nat → Nat → Int32 → Int32 → Int32 → Int32 → Int32 → Option (Sg × Int64)) (s : Sg) (g0 : Nat) (k3 : Nat) (g3 : Nat) (g4 : Nat) (l5 : Int32) (l6 : Int32) (l7 : Int32) (l8 : Int32) (l9 : Int32) : x4_valueOf_b77_G K100 s g0 k3 g3 g4 l5 l6 l7 l8 l9 = t_x4_valueOf_b77 K100 [some (.inr (.inr (some (4, g0)))), none, none, some (.inr (.inr (some (k3, g3)))), some (.inr (.inr (some (36, g4)))), some (.inl l5), some (.inl l6), some (.inl l7), some (.inl l8), some (.inl l9), none, none] [] s := rfl
noncomputable def x4_valueOf_b20_G (K20 : Sg → Nat → Nat → Nat → Nat → Int32 → Int32 → Int32 → Option (Sg × Int64)) (K77 : Sg → Nat → Nat → Nat → Nat → Int32 → Int32 → Int32 → Int32 → Int32 → Option (Sg × Int64)) (K215 : Sg → Nat → Nat → Nat → Nat → Int32 → Int32 → Int32 → Int32 → Int64 → Option (Sg × Int64)) (s : Sg) (g0 : Nat) (k3 : Nat) (g3 : Nat) (g4 : Nat) (l5 : Int32) (l6 : Int32) (l7 : Int32) : Option (Sg × Int64) :=
  gif ((l7 : Int32) < (Int32.ofNat (rN s 36 g4 0))) (
    gif ((l6 : Int32) < 0) (
      gd (isB 1) (
      let s1 := wI s 4 g0 1 1
      some (s1, 0)))
    (
      gif ((l6 : Int32) < (Int32.ofNat (rN s 36 g4 0))) (
        gd (inb l6 (rN s 36 g4 0)) (
        gd (inb l6 (rN s 36 g4 0)) (
        gif ((((rI s 36 g4 (ix l6)) >>> (12 &&& 31)) : Int32) = 1) (
          K77 s g0 k3 g3 g4 l5 (l6 + 1) l7 ((rI s 36 g4 (ix l6)) >>> (12 &&& 31)) ((rI s 36 g4 (ix l6)) &&& 4095))
        (
          gif ((((rI s 36 g4 (ix l6)) >>> (12 &&& 31)) : Int32) = 2) (
            K77 s g0 k3 g3 g4 l5 (l6 + 1) l7 ((rI s 36 g4 (ix l6)) >>> (12 &&& 31)) ((rI s 36 g4 (ix l6)) &&& 4095))
          (
            gif ((l5 : Int32) < 1) (
              gd (isB 1) (
              let s2 := wI s 4 g0 1 1
              some (s2, 0)))
            (
              gd (inb (l5 - 1) 64) (
              gif ((((rI s 36 g4 (ix l6)) >>> (12 &&& 31)) : Int32) = 6) (
                some (s, (rL s 23 g0 (ix (l5 - 1)))))
              (
                gif ((((rI s 36 g4 (ix l6)) >>> (12 &&& 31)) : Int32) = 3) (
                  gd (inb (l5 - 1) 64) (
                  let s3 := wL s 23 g0 (ix (l5 - 1)) (1 - (rL s 23 g0 (ix (l5 - 1))))
                  K20 s3 g0 k3 g3 g4 l5 (l6 + 1) (l7 + 1)))
                (
                  gif ((((rI s 36 g4 (ix l6)) >>> (12 &&& 31)) : Int32) = 4) (
                    gif (((lg_cmp (rL s 23 g0 (ix (l5 - 1))) 0) : Int32) = 0) (
                      K20 s g0 k3 g3 g4 l5 ((rI s 36 g4 (ix l6)) &&& 4095) (l7 + 1))
                    (
                      gif ((((rI s 36 g4 (ix l6)) >>> (12 &&& 31)) : Int32) = 5) (
                        gif (((lg_cmp (rL s 23 g0 (ix (l5 - 1))) 0) : Int32) = 0) (
                          K215 s g0 k3 g3 g4 l5 (l6 + 1) l7 ((rI s 36 g4 (ix l6)) >>> (12 &&& 31)) (rL s 23 g0 (ix (l5 - 1))))
                        (
                          K20 s g0 k3 g3 g4 l5 ((rI s 36 g4 (ix l6)) &&& 4095) (l7 + 1)))
                      (
                        K215 s g0 k3 g3 g4 l5 (l6 + 1) l7 ((rI s 36 g4 (ix l6)) >>> (12 &&& 31)) (rL s 23 g0 (ix (l5 - 1))))))
                  (
                    gif ((((rI s 36 g4 (ix l6)) >>> (12 &&& 31)) : Int32) = 5) (
                      gif (((lg_cmp (rL s 23 g0 (ix (l5 - 1))) 0) : Int32) = 0) (
                        K215 s g0 k3 g3 g4 l5 (l6 + 1) l7 ((rI s 36 g4 (ix l6)) >>> (12 &&& 31)) (rL s 23 g0 (ix (l5 - 1))))
                      (
                        K20 s g0 k3 g3 g4 l5 ((rI s 36 g4 (ix l6)) &&& 4095) (l7 + 1)))
                    (
                      K215 s g0 k3 g3 g4 l5 (l6 + 1) l7 ((rI s 36 g4 (ix l6)) >>> (12 &&& 31)) (rL s 23 g0 (ix (l5 - 1))))))))))))))
      (
        gd (isB 1) (
        let s4 := wI s 4 g0 1 1
        some (s4, 0)))))
  (
    gd (isB 1) (
    let s5 := wI s 4 g0 1 1
    some (s5, 0)))
noncomputable def x4_valueOf_b20 : Nat → Sg → Nat → Nat → Nat → Nat → Int32 → Int32 → Int32 → Option (Sg × Int64)
  | 0 => fun _ _ _ _ _ _ _ _ => none
  | n + 1 => x4_valueOf_b20_G (x4_valueOf_b20 n) (x4_valueOf_b77 (x4_valueOf_b20 n)) (x4_valueOf_b215 (x4_valueOf_b20 n))
noncomputable def t_x4_valueOf_b20 (K20 : Sg → Nat → Nat → Nat → Nat → Int32 → Int32 → Int32 → Option (Sg × Int64)) (K77 : Sg → Nat → Nat → Nat → Nat → Int32 → Int32 → Int32 → Int32 → Int32 → Option (Sg × Int64)) (K215 : Sg → Nat → Nat → Nat → Nat → Int32 → Int32 → Int32 → Int32 → Int64 → Option (Sg × Int64)) : Bk (Sg × Int64) := (s_ldI 7 (s_ldA 4 (s_alenC (s_clt
  (s_ldI 6 (s_lt0
    (s_ldA 0 (s_ic 1 (s_putZ 4 1 (s_lc 0 (s_lret retL)))))
    (s_ldI 6 (s_ldA 4 (s_alenC (s_clt
      (s_ldA 4 (s_ldI 6 (s_ialdC (s_ic 12 (s_bin (fun x y => x >>> (y &&& 31)) (s_stI 8 (s_ldA 4 (s_ldI 6 (s_ialdC (s_ic 4095 (s_bin (fun x y => x &&& y) (s_stI 9 (s_inc 6 1 (s_ldI 8 (s_ic 1 (s_ceq
        (p_R 0 4 fun a0 => p_F 3 fun k3 a3 => p_R 4 36 fun a4 => p_I 5 fun a5 => p_I 6 fun a6 => p_I 7 fun a7 => p_I 8 fun a8 => p_I 9 fun a9 => p_E fun s => K77 s a0 k3 a3 a4 a5 a6 a7 a8 a9)
        (s_ldI 8 (s_ic 2 (s_ceq
          (p_R 0 4 fun a0 => p_F 3 fun k3 a3 => p_R 4 36 fun a4 => p_I 5 fun a5 => p_I 6 fun a6 => p_I 7 fun a7 => p_I 8 fun a8 => p_I 9 fun a9 => p_E fun s => K77 s a0 k3 a3 a4 a5 a6 a7 a8 a9)
          (s_ldI 5 (s_ic 1 (s_clt
            (s_goto (s_ldA 0 (s_ic 1 (s_putZ 4 1 (s_lc 0 (s_lret retL))))))
            (s_ldA 0 (s_getRv 4 0 23 (s_ldI 5 (s_ic 1 (s_bin (fun x y => x - y) (s_lald 23 64 (s_stL 10 (s_ldI 8 (s_ic 6 (s_ceq
              (s_ldL 10 (s_lret retL))
              (s_ldI 8 (s_ic 3 (s_ceq
                (s_ldA 0 (s_getRv 4 0 23 (s_ldI 5 (s_ic 1 (s_bin (fun x y => x - y) (s_lc 1 (s_ldL 10 (s_lbin (fun x y => x - y) (s_last 23 64 (s_goto (s_inc 7 1 (s_goto (p_R 0 4 fun a0 => p_F 3 fun k3 a3 => p_R 4 36 fun a4 => p_I 5 fun a5 => p_I 6 fun a6 => p_I 7 fun a7 => p_E fun s => K20 s a0 k3 a3 a4 a5 a6 a7)))))))))))))
                (s_ldI 8 (s_ic 4 (s_ceq
                  (s_ldL 10 (s_lc 0 (s_lcmp (s_eq0
                    (s_ldI 9 (s_stI 6 (s_goto (s_inc 7 1 (s_goto (p_R 0 4 fun a0 => p_F 3 fun k3 a3 => p_R 4 36 fun a4 => p_I 5 fun a5 => p_I 6 fun a6 => p_I 7 fun a7 => p_E fun s => K20 s a0 k3 a3 a4 a5 a6 a7))))))
                    (s_ldI 8 (s_ic 5 (s_ceq
                      (s_ldL 10 (s_lc 0 (s_lcmp (s_eq0
                        (p_R 0 4 fun a0 => p_F 3 fun k3 a3 => p_R 4 36 fun a4 => p_I 5 fun a5 => p_I 6 fun a6 => p_I 7 fun a7 => p_I 8 fun a8 => p_L 10 fun a10 => p_E fun s => K215 s a0 k3 a3 a4 a5 a6 a7 a8 a10)
                        (s_ldI 9 (s_stI 6 (s_goto (s_inc 7 1 (s_goto (p_R 0 4 fun a0 => p_F 3 fun k3 a3 => p_R 4 36 fun a4 => p_I 5 fun a5 => p_I 6 fun a6 => p_I 7 fun a7 => p_E fun s => K20 s a0 k3 a3 a4 a5 a6 a7))))))))))
                      (p_R 0 4 fun a0 => p_F 3 fun k3 a3 => p_R 4 36 fun a4 => p_I 5 fun a5 => p_I 6 fun a6 => p_I 7 fun a7 => p_I 8 fun a8 => p_L 10 fun a10 => p_E fun s => K215 s a0 k3 a3 a4 a5 a6 a7 a8 a10))))))))
                  (s_ldI 8 (s_ic 5 (s_ceq
                    (s_ldL 10 (s_lc 0 (s_lcmp (s_eq0
                      (p_R 0 4 fun a0 => p_F 3 fun k3 a3 => p_R 4 36 fun a4 => p_I 5 fun a5 => p_I 6 fun a6 => p_I 7 fun a7 => p_I 8 fun a8 => p_L 10 fun a10 => p_E fun s => K215 s a0 k3 a3 a4 a5 a6 a7 a8 a10)
                      (s_ldI 9 (s_stI 6 (s_goto (s_inc 7 1 (s_goto (p_R 0 4 fun a0 => p_F 3 fun k3 a3 => p_R 4 36 fun a4 => p_I 5 fun a5 => p_I 6 fun a6 => p_I 7 fun a7 => p_E fun s => K20 s a0 k3 a3 a4 a5 a6 a7))))))))))
                    (p_R 0 4 fun a0 => p_F 3 fun k3 a3 => p_R 4 36 fun a4 => p_I 5 fun a5 => p_I 6 fun a6 => p_I 7 fun a7 => p_I 8 fun a8 => p_L 10 fun a10 => p_E fun s => K215 s a0 k3 a3 a4 a5 a6 a7 a8 a10))))))))))))))))))))))))))))))))))))))))))
      (s_ldA 0 (s_ic 1 (s_putZ 4 1 (s_lc 0 (s_lret retL)))))))))))
  (s_ldA 0 (s_ic 1 (s_putZ 4 1 (s_lc 0 (s_lret retL)))))))))
set_option maxRecDepth 20000 in
theorem e_x4_valueOf_b20 (K20 : Sg → Nat → Nat → Nat → Nat → Int32 → Int32 → Int32 → Option (Sg × Int64)) (K77 : Sg → Nat → Nat → Nat → Nat → Int32 → Int32 → Int32 → Int32 → Int32 → Option (Sg × Int64)) (K215 : Sg → Nat → Nat → Nat → Nat → Int32 → Int32 → Int32 → Int32 → Int64 → Option (Sg × Int64)) (s : Sg) (g0 : Nat) (k3 : Nat) (g3 : Nat) (g4 : Nat) (l5 : Int32) (l6 : Int32) (l7 : Int32) : x4_valueOf_b20_G K20 K77 K215 s g0 k3 g3 g4 l5 l6 l7 = t_x4_valueOf_b20 K20 K77 K215 [some (.inr (.inr (some (4, g0)))), none, none, some (.inr (.inr (some (k3, g3)))), some (.inr (.inr (some (36, g4)))), some (.inl l5), some (.inl l6), some (.inl l7), none, none, none, none] [] s := rfl
noncomputable def x4_valueOf_G (K20 : Sg → Nat → Nat → Nat → Nat → Int32 → Int32 → Int32 → Option (Sg × Int64)) (s : Sg) (g0 : Nat) (g1 : Nat) (l2 : Int32) (k3 : Nat) (g3 : Nat) : Option (Sg × Int64) :=
  gd (isB 0) (
  let s1 := wI s 4 g0 1 0
  K20 s1 g0 k3 g3 g1 0 l2 0)
noncomputable def x4_valueOf : Sg → Nat → Nat → Int32 → Nat → Nat → Option (Sg × Int64) := x4_valueOf_G (x4_valueOf_b20 FU)
noncomputable def t_x4_valueOf (K20 : Sg → Nat → Nat → Nat → Nat → Int32 → Int32 → Int32 → Option (Sg × Int64)) : Bk (Sg × Int64) := (s_ldA 1 (s_getRv 8 5 36 (s_stA 4 (s_ic 0 (s_stI 5 (s_ldI 2 (s_stI 6 (s_ldA 0 (s_ic 0 (s_putZ 4 1 (s_ic 0 (s_stI 7 (p_R 0 4 fun a0 => p_F 3 fun k3 a3 => p_R 4 36 fun a4 => p_I 5 fun a5 => p_I 6 fun a6 => p_I 7 fun a7 => p_E fun s => K20 s a0 k3 a3 a4 a5 a6 a7)))))))))))))
set_option maxRecDepth 20000 in
theorem e_x4_valueOf (K20 : Sg → Nat → Nat → Nat → Nat → Int32 → Int32 → Int32 → Option (Sg × Int64)) (s : Sg) (g0 : Nat) (g1 : Nat) (l2 : Int32) (k3 : Nat) (g3 : Nat) : x4_valueOf_G K20 s g0 g1 l2 k3 g3 = t_x4_valueOf K20 [some (.inr (.inr (some (4, g0)))), some (.inr (.inr (some (8, g1)))), some (.inl l2), some (.inr (.inr (some (k3, g3)))), none, none, none, none, none, none, none, none] [] s := rfl
noncomputable def x9_clamp_G (s : Sg) (l0 : Int64) (l2 : Int32) : Option (Sg × Int32) :=
  some (s, (Int64.toInt32 (g_lmax 0 (g_lmin l0 (Int32.toInt64 l2)))))
noncomputable def x9_clamp : Sg → Int64 → Int32 → Option (Sg × Int32) := x9_clamp_G
noncomputable def t_x9_clamp : Bk (Sg × Int32) := (s_lc 0 (s_ldL 0 (s_ldI 2 (s_i2l (s_lm2 g_lmin (s_lm2 g_lmax (s_l2i (s_iret retI))))))))
set_option maxRecDepth 20000 in
theorem e_x9_clamp (s : Sg) (l0 : Int64) (l2 : Int32) : x9_clamp_G s l0 l2 = t_x9_clamp [some (.inr (.inl l0)), none, some (.inl l2)] [] s := rfl
