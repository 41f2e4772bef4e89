noncomputable def m_readOrder_b60_G (c_m_takes0 : Sg → Int32 → Option (Sg × Int32)) (c_m_mustNumber : Sg → Int32 → Int32 → Option Sg) (c_m_readTest : Sg → Int32 → Option Sg) (s : Sg) : Option Sg :=
  (c_m_takes0 s 27).bind fun q1 => (
  gif ((q1.2 : Int32) = 0) (
    (c_m_takes0 q1.1 4).bind fun q2 => (
    gif ((q2.2 : Int32) = 0) (
      some q2.1)
    (
      (c_m_readTest q2.1 0).bind fun s3 => (
      some s3))))
  (
    (c_m_mustNumber q1.1 1 20).bind fun s4 => (
    (c_m_takes0 s4 4).bind fun q5 => (
    gif ((q5.2 : Int32) = 0) (
      some q5.1)
    (
      (c_m_readTest q5.1 0).bind fun s6 => (
      some s6))))))
noncomputable def m_readOrder_b60 : Sg → Option Sg := m_readOrder_b60_G m_takes0 m_mustNumber (m_readTest DR)
noncomputable def t_m_readOrder_b60 (c_m_takes0 : Sg → Int32 → Option (Sg × Int32)) (c_m_mustNumber : Sg → Int32 → Int32 → Option Sg) (c_m_readTest : Sg → Int32 → Option Sg) : Bk Sg := (s_ldA 0 (s_ic 27 (s_call (FW_m_takes0 c_m_takes0) 2 (s_eq0
  (s_ldA 0 (s_ic 4 (s_call (FW_m_takes0 c_m_takes0) 2 (s_eq0
    (s_vret retV)
    (s_ldA 0 (s_ic 0 (s_call (FW_m_readTest c_m_readTest) 2 (s_vret retV))))))))
  (s_ldA 0 (s_ic 1 (s_ic 20 (s_call (FW_m_mustNumber c_m_mustNumber) 3 (s_ldA 0 (s_ic 4 (s_call (FW_m_takes0 c_m_takes0) 2 (s_eq0
    (s_vret retV)
    (s_ldA 0 (s_ic 0 (s_call (FW_m_readTest c_m_readTest) 2 (s_vret retV))))))))))))))))
set_option maxRecDepth 20000 in
theorem e_m_readOrder_b60 (c_m_takes0 : Sg → Int32 → Option (Sg × Int32)) (c_m_mustNumber : Sg → Int32 → Int32 → Option Sg) (c_m_readTest : Sg → Int32 → Option Sg) (s : Sg) : m_readOrder_b60_G c_m_takes0 c_m_mustNumber c_m_readTest s = t_m_readOrder_b60 c_m_takes0 c_m_mustNumber c_m_readTest [some (.inr (.inr (some (10, 0))))] [] s := rfl
noncomputable def m_readOrder_G (K60 : Sg → Option Sg) (c_m_takes0 : Sg → Int32 → Option (Sg × Int32)) (c_m_readSum : Sg → Int32 → Option Sg) (c_m_must : Sg → Int32 → Option Sg) (s : Sg) : Option Sg :=
  (c_m_takes0 s 24).bind fun q1 => (
  gif ((q1.2 : Int32) = 0) (
    (c_m_takes0 q1.1 22).bind fun q2 => (
    gif ((q2.2 : Int32) = 0) (
      (c_m_takes0 q2.1 23).bind fun q3 => (
      gif ((q3.2 : Int32) = 0) (
        (c_m_must q3.1 26).bind fun s4 => (
        K60 s4))
      (
        (c_m_readSum q3.1 0).bind fun s5 => (
        K60 s5))))
    (
      (c_m_readSum q2.1 0).bind fun s6 => (
      K60 s6))))
  (
    (c_m_readSum q1.1 0).bind fun s7 => (
    (c_m_must s7 25).bind fun s8 => (
    (c_m_readSum s8 0).bind fun s9 => (
    K60 s9)))))
noncomputable def m_readOrder : Sg → Option Sg := m_readOrder_G (m_readOrder_b60) m_takes0 (m_readSum DR) m_must
noncomputable def t_m_readOrder (K60 : Sg → Option Sg) (c_m_takes0 : Sg → Int32 → Option (Sg × Int32)) (c_m_readSum : Sg → Int32 → Option Sg) (c_m_must : Sg → Int32 → Option Sg) : Bk Sg := (s_ldA 0 (s_ic 24 (s_call (FW_m_takes0 c_m_takes0) 2 (s_eq0
  (s_ldA 0 (s_ic 22 (s_call (FW_m_takes0 c_m_takes0) 2 (s_eq0
    (s_ldA 0 (s_ic 23 (s_call (FW_m_takes0 c_m_takes0) 2 (s_eq0
      (s_ldA 0 (s_ic 26 (s_call (FW_m_must c_m_must) 2 (p_C 0 10 0 <| p_E fun s => K60 s))))
      (s_ldA 0 (s_ic 0 (s_call (FW_m_readSum c_m_readSum) 2 (s_goto (p_C 0 10 0 <| p_E fun s => K60 s)))))))))
    (s_ldA 0 (s_ic 0 (s_call (FW_m_readSum c_m_readSum) 2 (s_goto (p_C 0 10 0 <| p_E fun s => K60 s)))))))))
  (s_ldA 0 (s_ic 0 (s_call (FW_m_readSum c_m_readSum) 2 (s_ldA 0 (s_ic 25 (s_call (FW_m_must c_m_must) 2 (s_ldA 0 (s_ic 0 (s_call (FW_m_readSum c_m_readSum) 2 (s_goto (p_C 0 10 0 <| p_E fun s => K60 s)))))))))))))))
set_option maxRecDepth 20000 in
theorem e_m_readOrder (K60 : Sg → Option Sg) (c_m_takes0 : Sg → Int32 → Option (Sg × Int32)) (c_m_readSum : Sg → Int32 → Option Sg) (c_m_must : Sg → Int32 → Option Sg) (s : Sg) : m_readOrder_G K60 c_m_takes0 c_m_readSum c_m_must s = t_m_readOrder K60 c_m_takes0 c_m_readSum c_m_must [some (.inr (.inr (some (10, 0))))] [] s := rfl
noncomputable def m_readOne_G (c_m_readOrder : Sg → Option Sg) (c_m_readClause : Sg → Option Sg) (s : Sg) : Option Sg :=
  gif (((rI s 10 0 10) : Int32) = 0) (
    (c_m_readClause s).bind fun s1 => (
    some s1))
  (
    (c_m_readOrder s).bind fun s2 => (
    some s2))
noncomputable def m_readOne : Sg → Option Sg := m_readOne_G m_readOrder m_readClause
noncomputable def t_m_readOne (c_m_readOrder : Sg → Option Sg) (c_m_readClause : Sg → Option Sg) : Bk Sg := (s_ldA 0 (s_getI 10 10 (s_eq0
  (s_ldA 0 (s_call (FW_m_readClause c_m_readClause) 1 (s_vret retV)))
  (s_ldA 0 (s_call (FW_m_readOrder c_m_readOrder) 1 (s_goto (s_vret retV)))))))
set_option maxRecDepth 20000 in
theorem e_m_readOne (c_m_readOrder : Sg → Option Sg) (c_m_readClause : Sg → Option Sg) (s : Sg) : m_readOne_G c_m_readOrder c_m_readClause s = t_m_readOne c_m_readOrder c_m_readClause [some (.inr (.inr (some (10, 0))))] [] s := rfl
noncomputable def m_reads_b39_G (K39 : Sg → Int32 → Option (Sg × Int32)) (c_m_sign : Sg → Int32 → Option (Sg × Int32)) (c_m_takes0 : Sg → Int32 → Option (Sg × Int32)) (c_m_faults : Sg → Option Sg) (c_m_fine : Sg → Option (Sg × Int32)) (c_m_readOne : Sg → Option Sg) (s : Sg) (l1 : Int32) : Option (Sg × Int32) :=
  (c_m_sign s 59).bind fun q1 => (
  (c_m_takes0 q1.1 q1.2).bind fun q2 => (
  gif ((q2.2 : Int32) = 0) (
    (c_m_fine q2.1).bind fun q3 => (
    gif ((q3.2 : Int32) = 0) (
      let s4 := wI q3.1 10 0 14 (rI q3.1 10 0 21)
      (c_m_fine s4).bind fun q5 => (
      gd (isB q5.2) (some (q5.1, q5.2))))
    (
      gif (((rI q3.1 10 0 19) : Int32) < (rI q3.1 10 0 18)) (
        (c_m_faults q3.1).bind fun s6 => (
        let s7 := wI s6 10 0 14 (rI s6 10 0 21)
        (c_m_fine s7).bind fun q8 => (
        gd (isB q8.2) (some (q8.1, q8.2)))))
      (
        let s9 := wI q3.1 10 0 14 (rI q3.1 10 0 21)
        (c_m_fine s9).bind fun q10 => (
        gd (isB q10.2) (some (q10.1, q10.2)))))))
  (
    gif ((l1 : Int32) = 12) (
      (c_m_faults q2.1).bind fun s11 => (
      (c_m_fine s11).bind fun q12 => (
      gif ((q12.2 : Int32) = 0) (
        K39 q12.1 (l1 + 1))
      (
        (c_m_readOne q12.1).bind fun s13 => (
        K39 s13 (l1 + 1))))))
    (
      (c_m_fine q2.1).bind fun q14 => (
      gif ((q14.2 : Int32) = 0) (
        K39 q14.1 (l1 + 1))
      (
        (c_m_readOne q14.1).bind fun s15 => (
        K39 s15 (l1 + 1))))))))
noncomputable def m_reads_b39 : Nat → Sg → Int32 → Option (Sg × Int32)
  | 0 => fun _ _ => none
  | n + 1 => m_reads_b39_G (m_reads_b39 n) m_sign m_takes0 m_faults m_fine m_readOne
noncomputable def t_m_reads_b39 (K39 : Sg → Int32 → Option (Sg × Int32)) (c_m_sign : Sg → Int32 → Option (Sg × Int32)) (c_m_takes0 : Sg → Int32 → Option (Sg × Int32)) (c_m_faults : Sg → Option Sg) (c_m_fine : Sg → Option (Sg × Int32)) (c_m_readOne : Sg → Option Sg) : Bk (Sg × Int32) := (s_ldA 0 (s_ic 59 (s_call (FW_m_sign c_m_sign) 1 (s_call (FW_m_takes0 c_m_takes0) 2 (s_eq0
  (s_ldA 0 (s_call (FW_m_fine c_m_fine) 1 (s_eq0
    (s_ldA 0 (s_ldA 0 (s_getI 10 21 (s_putI 10 14 (s_ldA 0 (s_call (FW_m_fine c_m_fine) 1 (s_zret retI)))))))
    (s_ldA 0 (s_getI 10 19 (s_ldA 0 (s_getI 10 18 (s_clt
      (s_ldA 0 (s_call (FW_m_faults c_m_faults) 1 (s_ldA 0 (s_ldA 0 (s_getI 10 21 (s_putI 10 14 (s_ldA 0 (s_call (FW_m_fine c_m_fine) 1 (s_zret retI)))))))))
      (s_ldA 0 (s_ldA 0 (s_getI 10 21 (s_putI 10 14 (s_ldA 0 (s_call (FW_m_fine c_m_fine) 1 (s_zret retI)))))))))))))))
  (s_ldI 1 (s_ic 12 (s_ceq
    (s_ldA 0 (s_call (FW_m_faults c_m_faults) 1 (s_ldA 0 (s_call (FW_m_fine c_m_fine) 1 (s_eq0
      (s_inc 1 1 (s_goto (p_C 0 10 0 <| p_I 1 fun a1 => p_E fun s => K39 s a1)))
      (s_ldA 0 (s_call (FW_m_readOne c_m_readOne) 1 (s_inc 1 1 (s_goto (p_C 0 10 0 <| p_I 1 fun a1 => p_E fun s => K39 s a1))))))))))
    (s_ldA 0 (s_call (FW_m_fine c_m_fine) 1 (s_eq0
      (s_inc 1 1 (s_goto (p_C 0 10 0 <| p_I 1 fun a1 => p_E fun s => K39 s a1)))
      (s_ldA 0 (s_call (FW_m_readOne c_m_readOne) 1 (s_inc 1 1 (s_goto (p_C 0 10 0 <| p_I 1 fun a1 => p_E fun s => K39 s a1))))))))))))))))
set_option maxRecDepth 20000 in
theorem e_m_reads_b39 (K39 : Sg → Int32 → Option (Sg × Int32)) (c_m_sign : Sg → Int32 → Option (Sg × Int32)) (c_m_takes0 : Sg → Int32 → Option (Sg × Int32)) (c_m_faults : Sg → Option Sg) (c_m_fine : Sg → Option (Sg × Int32)) (c_m_readOne : Sg → Option Sg) (s : Sg) (l1 : Int32) : m_reads_b39_G K39 c_m_sign c_m_takes0 c_m_faults c_m_fine c_m_readOne s l1 = t_m_reads_b39 K39 c_m_sign c_m_takes0 c_m_faults c_m_fine c_m_readOne [some (.inr (.inr (some (10, 0)))), some (.inl l1)] [] s := rfl
noncomputable def m_reads_G (K39 : Sg → Int32 → Option (Sg × Int32)) (c_m_splits : Sg → Int32 → Option Sg) (c_m_readOne : Sg → Option Sg) (s : Sg) : Option (Sg × Int32) :=
  (c_m_splits s (rI s 10 0 13)).bind fun s1 => (
  let s2 := wI s1 10 0 13 0
  let s3 := wI s2 10 0 19 0
  let s4 := wI s3 10 0 20 0
  let s5 := wI s4 10 0 24 0
  let s6 := wI s5 10 0 21 (-1)
  (c_m_readOne s6).bind fun s7 => (
  K39 s7 1))
noncomputable def m_reads : Sg → Option (Sg × Int32) := m_reads_G (m_reads_b39 FU) m_splits m_readOne
noncomputable def t_m_reads (K39 : Sg → Int32 → Option (Sg × Int32)) (c_m_splits : Sg → Int32 → Option Sg) (c_m_readOne : Sg → Option Sg) : Bk (Sg × Int32) := (s_ldA 0 (s_ldA 0 (s_getI 10 13 (s_call (FW_m_splits c_m_splits) 2 (s_ldA 0 (s_ic 0 (s_putI 10 13 (s_ldA 0 (s_ic 0 (s_putI 10 19 (s_ldA 0 (s_ic 0 (s_putI 10 20 (s_ldA 0 (s_ic 0 (s_putI 10 24 (s_ldA 0 (s_ic (-1) (s_putI 10 21 (s_ldA 0 (s_call (FW_m_readOne c_m_readOne) 1 (s_ic 1 (s_stI 1 (p_C 0 10 0 <| p_I 1 fun a1 => p_E fun s => K39 s a1))))))))))))))))))))))))
set_option maxRecDepth 20000 in
theorem e_m_reads (K39 : Sg → Int32 → Option (Sg × Int32)) (c_m_splits : Sg → Int32 → Option Sg) (c_m_readOne : Sg → Option Sg) (s : Sg) : m_reads_G K39 c_m_splits c_m_readOne s = t_m_reads K39 c_m_splits c_m_readOne [some (.inr (.inr (some (10, 0)))), none] [] s := rfl
noncomputable def m_readsAs_b17_G (c_m_reads : Sg → Option (Sg × Int32)) (s : Sg) (l1 : Int32) (y1 : Int32) : Option (Sg × Int32) :=
  let s1 := wI s 10 0 8 y1
  gif ((l1 : Int32) = 0) (
    let s2 := wI s1 10 0 9 15
    (c_m_reads s2).bind fun q3 => (
    gd (isB q3.2) (some (q3.1, q3.2))))
  (
    let s4 := wI s1 10 0 9 21
    (c_m_reads s4).bind fun q5 => (
    gd (isB q5.2) (some (q5.1, q5.2))))
noncomputable def m_readsAs_b17 : Sg → Int32 → Int32 → Option (Sg × Int32) := m_readsAs_b17_G m_reads
noncomputable def t_m_readsAs_b17 (c_m_reads : Sg → Option (Sg × Int32)) : Bk (Sg × Int32) := (s_putI 10 8 (s_ldA 0 (s_ldI 1 (s_eq0
  (s_ic 15 (s_putI 10 9 (s_ldA 0 (s_call (FW_m_reads c_m_reads) 1 (s_zret retI)))))
  (s_ic 21 (s_goto (s_putI 10 9 (s_ldA 0 (s_call (FW_m_reads c_m_reads) 1 (s_zret retI))))))))))
set_option maxRecDepth 20000 in
theorem e_m_readsAs_b17 (c_m_reads : Sg → Option (Sg × Int32)) (s : Sg) (l1 : Int32) (y1 : Int32) : m_readsAs_b17_G c_m_reads s l1 y1 = t_m_readsAs_b17 c_m_reads [some (.inr (.inr (some (10, 0)))), some (.inl l1)] [.inl y1, .inr (.inr (some (10, 0)))] s := rfl
noncomputable def m_readsAs_G (K17 : Sg → Int32 → Int32 → Option (Sg × Int32)) (s : Sg) (l1 : Int32) : Option (Sg × Int32) :=
  gd (isB l1) (
  let s1 := wI s 10 0 10 l1
  gif ((l1 : Int32) = 0) (
    K17 s1 l1 8)
  (
    K17 s1 l1 15))
noncomputable def m_readsAs : Sg → Int32 → Option (Sg × Int32) := m_readsAs_G (m_readsAs_b17)
noncomputable def t_m_readsAs (K17 : Sg → Int32 → Int32 → Option (Sg × Int32)) : Bk (Sg × Int32) := (s_ldA 0 (s_ldI 1 (s_putZ 10 10 (s_ldA 0 (s_ldI 1 (s_eq0
  (s_ic 8 (p_C 0 10 0 <| p_I 1 fun a1 => q_I fun b1 => q_C 10 0 <| p_E fun s => K17 s a1 b1))
  (s_ic 15 (s_goto (p_C 0 10 0 <| p_I 1 fun a1 => q_I fun b1 => q_C 10 0 <| p_E fun s => K17 s a1 b1)))))))))
set_option maxRecDepth 20000 in
theorem e_m_readsAs (K17 : Sg → Int32 → Int32 → Option (Sg × Int32)) (s : Sg) (l1 : Int32) : m_readsAs_G K17 s l1 = t_m_readsAs K17 [some (.inr (.inr (some (10, 0)))), some (.inl l1)] [] s := rfl
noncomputable def m_lays_b15_G (K15 : Sg → Int32 → Int32 → Option Sg) (s : Sg) (l1 : Int32) (l2 : Int32) : Option Sg :=
  gif ((l2 : Int32) < (rI s 10 0 18)) (
    gd (inb l2 401) (
    gd (inb ((65 + (400 * l1)) + l2) 5665) (
    let s1 := wI s 43 0 (ix ((65 + (400 * l1)) + l2)) (rI s 50 0 (ix l2))
    gd (inb l2 401) (
    gd (inb ((2865 + (400 * l1)) + l2) 5665) (
    let s2 := wI s1 43 0 (ix ((2865 + (400 * l1)) + l2)) (rI s1 51 0 (ix l2))
    K15 s2 l1 (l2 + 1))))))
  (
    some s)
noncomputable def m_lays_b15 : Nat → Sg → Int32 → Int32 → Option Sg
  | 0 => fun _ _ _ => none
  | n + 1 => m_lays_b15_G (m_lays_b15 n)
noncomputable def t_m_lays_b15 (K15 : Sg → Int32 → Int32 → Option Sg) : Bk Sg := (s_ldI 2 (s_ldA 0 (s_getI 10 18 (s_clt
  (s_ldA 0 (s_getRc 10 2 43 0 (s_ic 65 (s_ic 400 (s_ldI 1 (s_bin (fun x y => x * y) (s_bin (fun x y => x + y) (s_ldI 2 (s_bin (fun x y => x + y) (s_ldA 0 (s_getRc 10 15 50 0 (s_ldI 2 (s_iald 50 401 (s_iast 43 5665 (s_ldA 0 (s_getRc 10 2 43 0 (s_ic 2865 (s_ic 400 (s_ldI 1 (s_bin (fun x y => x * y) (s_bin (fun x y => x + y) (s_ldI 2 (s_bin (fun x y => x + y) (s_ldA 0 (s_getRc 10 16 51 0 (s_ldI 2 (s_iald 51 401 (s_iast 43 5665 (s_inc 2 1 (s_goto (p_C 0 10 0 <| p_I 1 fun a1 => p_I 2 fun a2 => p_E fun s => K15 s a1 a2)))))))))))))))))))))))))))))))
  (s_vret retV)))))
set_option maxRecDepth 20000 in
theorem e_m_lays_b15 (K15 : Sg → Int32 → Int32 → Option Sg) (s : Sg) (l1 : Int32) (l2 : Int32) : m_lays_b15_G K15 s l1 l2 = t_m_lays_b15 K15 [some (.inr (.inr (some (10, 0)))), some (.inl l1), some (.inl l2)] [] s := rfl
noncomputable def m_lays_G (K15 : Sg → Int32 → Int32 → Option Sg) (s : Sg) (l1 : Int32) : Option Sg :=
  gd (inb (58 + l1) 5665) (
  let s1 := wI s 43 0 (ix (58 + l1)) (rI s 10 0 18)
  K15 s1 l1 0)
noncomputable def m_lays : Sg → Int32 → Option Sg := m_lays_G (m_lays_b15 FU)
noncomputable def t_m_lays (K15 : Sg → Int32 → Int32 → Option Sg) : Bk Sg := (s_ldA 0 (s_getRc 10 2 43 0 (s_ic 58 (s_ldI 1 (s_bin (fun x y => x + y) (s_ldA 0 (s_getI 10 18 (s_iast 43 5665 (s_ic 0 (s_stI 2 (p_C 0 10 0 <| p_I 1 fun a1 => p_I 2 fun a2 => p_E fun s => K15 s a1 a2)))))))))))
set_option maxRecDepth 20000 in
theorem e_m_lays (K15 : Sg → Int32 → Int32 → Option Sg) (s : Sg) (l1 : Int32) : m_lays_G K15 s l1 = t_m_lays K15 [some (.inr (.inr (some (10, 0)))), some (.inl l1), none] [] s := rfl
noncomputable def m_laysOps_b15_G (K15 : Sg → Int32 → Int32 → Option Sg) (s : Sg) (l1 : Int32) (l2 : Int32) : Option Sg :=
  gif ((l2 : Int32) < (rI s 10 0 24)) (
    gd (inb l2 800) (
    gd (inb ((65 + (400 * l1)) + l2) 5665) (
    let s1 := wI s 43 0 (ix ((65 + (400 * l1)) + l2)) (rI s 53 0 (ix l2))
    gd (inb l2 800) (
    gd (inb ((2865 + (400 * l1)) + l2) 5665) (
    let s2 := wI s1 43 0 (ix ((2865 + (400 * l1)) + l2)) (rI s1 54 0 (ix l2))
    K15 s2 l1 (l2 + 1))))))
  (
    some s)
noncomputable def m_laysOps_b15 : Nat → Sg → Int32 → Int32 → Option Sg
  | 0 => fun _ _ _ => none
  | n + 1 => m_laysOps_b15_G (m_laysOps_b15 n)
noncomputable def t_m_laysOps_b15 (K15 : Sg → Int32 → Int32 → Option Sg) : Bk Sg := (s_ldI 2 (s_ldA 0 (s_getI 10 24 (s_clt
  (s_ldA 0 (s_getRc 10 2 43 0 (s_ic 65 (s_ic 400 (s_ldI 1 (s_bin (fun x y => x * y) (s_bin (fun x y => x + y) (s_ldI 2 (s_bin (fun x y => x + y) (s_ldA 0 (s_getRc 10 22 53 0 (s_ldI 2 (s_iald 53 800 (s_iast 43 5665 (s_ldA 0 (s_getRc 10 2 43 0 (s_ic 2865 (s_ic 400 (s_ldI 1 (s_bin (fun x y => x * y) (s_bin (fun x y => x + y) (s_ldI 2 (s_bin (fun x y => x + y) (s_ldA 0 (s_getRc 10 23 54 0 (s_ldI 2 (s_iald 54 800 (s_iast 43 5665 (s_inc 2 1 (s_goto (p_C 0 10 0 <| p_I 1 fun a1 => p_I 2 fun a2 => p_E fun s => K15 s a1 a2)))))))))))))))))))))))))))))))
  (s_vret retV)))))
set_option maxRecDepth 20000 in
theorem e_m_laysOps_b15 (K15 : Sg → Int32 → Int32 → Option Sg) (s : Sg) (l1 : Int32) (l2 : Int32) : m_laysOps_b15_G K15 s l1 l2 = t_m_laysOps_b15 K15 [some (.inr (.inr (some (10, 0)))), some (.inl l1), some (.inl l2)] [] s := rfl
noncomputable def m_laysOps_G (K15 : Sg → Int32 → Int32 → Option Sg) (s : Sg) (l1 : Int32) : Option Sg :=
  gd (inb (58 + l1) 5665) (
  let s1 := wI s 43 0 (ix (58 + l1)) (rI s 10 0 24)
  K15 s1 l1 0)
noncomputable def m_laysOps : Sg → Int32 → Option Sg := m_laysOps_G (m_laysOps_b15 FU)
noncomputable def t_m_laysOps (K15 : Sg → Int32 → Int32 → Option Sg) : Bk Sg := (s_ldA 0 (s_getRc 10 2 43 0 (s_ic 58 (s_ldI 1 (s_bin (fun x y => x + y) (s_ldA 0 (s_getI 10 24 (s_iast 43 5665 (s_ic 0 (s_stI 2 (p_C 0 10 0 <| p_I 1 fun a1 => p_I 2 fun a2 => p_E fun s => K15 s a1 a2)))))))))))
set_option maxRecDepth 20000 in
theorem e_m_laysOps (K15 : Sg → Int32 → Int32 → Option Sg) (s : Sg) (l1 : Int32) : m_laysOps_G K15 s l1 = t_m_laysOps K15 [some (.inr (.inr (some (10, 0)))), some (.inl l1), none] [] s := rfl
noncomputable def m_law_G (c_m_refuses : Sg → Int32 → Option (Sg × Int32)) (c_m_readsAs : Sg → Int32 → Option (Sg × Int32)) (c_m_laysOps : Sg → Int32 → Option Sg) (c_m_good : Sg → Int32 → Option (Sg × Int32)) (s : Sg) : Option (Sg × Int32) :=
  gd (inb 56 5665) (
  gif (((rI s 43 0 (ix 56)) : Int32) = 6) (
    let s1 := wI s 10 0 13 0
    (c_m_refuses s1 (-5)).bind fun q2 => (
    some (q2.1, q2.2)))
  (
    (c_m_readsAs s 0).bind fun q3 => (
    gif ((q3.2 : Int32) = 0) (
      (c_m_refuses q3.1 (-6)).bind fun q4 => (
      some (q4.1, q4.2)))
    (
      gd (inb 56 5665) (
      (c_m_laysOps q3.1 (rI q3.1 43 0 (ix 56))).bind fun s5 => (
      gd (inb 56 5665) (
      gd (inb 56 5665) (
      let s6 := wI s5 43 0 (ix 56) ((rI s5 43 0 (ix 56)) + 1)
      gd (inb 56 5665) (
      (c_m_good s6 ((rI s6 43 0 (ix 56)) - 1)).bind fun q7 => (
      some (q7.1, q7.2)))))))))))
noncomputable def m_law : Sg → Option (Sg × Int32) := m_law_G m_refuses m_readsAs m_laysOps m_good
noncomputable def t_m_law (c_m_refuses : Sg → Int32 → Option (Sg × Int32)) (c_m_readsAs : Sg → Int32 → Option (Sg × Int32)) (c_m_laysOps : Sg → Int32 → Option Sg) (c_m_good : Sg → Int32 → Option (Sg × Int32)) : Bk (Sg × Int32) := (s_ldA 0 (s_getRc 10 2 43 0 (s_ic 56 (s_iald 43 5665 (s_ic 6 (s_ceq
  (s_ldA 0 (s_ic 0 (s_putI 10 13 (s_ldA 0 (s_ic (-5) (s_call (FW_m_refuses c_m_refuses) 2 (s_iret retI)))))))
  (s_ldA 0 (s_ic 0 (s_call (FW_m_readsAs c_m_readsAs) 2 (s_eq0
    (s_ldA 0 (s_ic (-6) (s_call (FW_m_refuses c_m_refuses) 2 (s_iret retI))))
    (s_ldA 0 (s_ldA 0 (s_getRc 10 2 43 0 (s_ic 56 (s_iald 43 5665 (s_call (FW_m_laysOps c_m_laysOps) 2 (s_ldA 0 (s_getRc 10 2 43 0 (s_ic 56 (s_dup2 (s_iald 43 5665 (s_ic 1 (s_bin (fun x y => x + y) (s_iast 43 5665 (s_ldA 0 (s_ldA 0 (s_getRc 10 2 43 0 (s_ic 56 (s_iald 43 5665 (s_ic 1 (s_bin (fun x y => x - y) (s_call (FW_m_good c_m_good) 2 (s_iret retI)))))))))))))))))))))))))))))))))
set_option maxRecDepth 20000 in
theorem e_m_law (c_m_refuses : Sg → Int32 → Option (Sg × Int32)) (c_m_readsAs : Sg → Int32 → Option (Sg × Int32)) (c_m_laysOps : Sg → Int32 → Option Sg) (c_m_good : Sg → Int32 → Option (Sg × Int32)) (s : Sg) : m_law_G c_m_refuses c_m_readsAs c_m_laysOps c_m_good s = t_m_law c_m_refuses c_m_readsAs c_m_laysOps c_m_good [some (.inr (.inr (some (10, 0))))] [] s := rfl
noncomputable def m_fault_G (s : Sg) : Option (Sg × Int32) :=
  some (s, (rI s 10 0 14))
noncomputable def m_fault : Sg → Option (Sg × Int32) := m_fault_G
noncomputable def t_m_fault : Bk (Sg × Int32) := (s_ldA 0 (s_getI 10 14 (s_iret retI)))
set_option maxRecDepth 20000 in
theorem e_m_fault (s : Sg) : m_fault_G s = t_m_fault [some (.inr (.inr (some (10, 0))))] [] s := rfl
noncomputable def m_isLaw_G (c_m_lies : Sg → Int32 → Int32 → Int32 → Option (Sg × Int32)) (s : Sg) (l1 : Int32) : Option (Sg × Int32) :=
  gd (inb 56 5665) (
  (c_m_lies s l1 (-1) ((rI s 43 0 (ix 56)) - 1)).bind fun q1 => (
  gd (isB q1.2) (some (q1.1, q1.2))))
noncomputable def m_isLaw : Sg → Int32 → Option (Sg × Int32) := m_isLaw_G m_lies
noncomputable def t_m_isLaw (c_m_lies : Sg → Int32 → Int32 → Int32 → Option (Sg × Int32)) : Bk (Sg × Int32) := (s_ldI 1 (s_ic (-1) (s_ldA 0 (s_getRc 10 2 43 0 (s_ic 56 (s_iald 43 5665 (s_ic 1 (s_bin (fun x y => x - y) (s_call (FW_m_lies c_m_lies) 3 (s_zret retI))))))))))
set_option maxRecDepth 20000 in
theorem e_m_isLaw (c_m_lies : Sg → Int32 → Int32 → Int32 → Option (Sg × Int32)) (s : Sg) (l1 : Int32) : m_isLaw_G c_m_lies s l1 = t_m_isLaw c_m_lies [some (.inr (.inr (some (10, 0)))), some (.inl l1)] [] s := rfl
noncomputable def m_force_G (c_m_isLaw : Sg → Int32 → Option (Sg × Int32)) (c_m_refuses : Sg → Int32 → Option (Sg × Int32)) (c_m_good : Sg → Int32 → Option (Sg × Int32)) (s : Sg) (l1 : Int32) : Option (Sg × Int32) :=
  (c_m_isLaw s l1).bind fun q1 => (
  gif ((q1.2 : Int32) = 0) (
    (c_m_refuses q1.1 (-2)).bind fun q2 => (
    some (q2.1, q2.2)))
  (
    gd (inb 57 5665) (
    gd (inb 57 5665) (
    let s3 := wI q1.1 43 0 (ix 57) l1
    (c_m_good s3 (rI q1.1 43 0 (ix 57))).bind fun q4 => (
    some (q4.1, q4.2))))))
noncomputable def m_force : Sg → Int32 → Option (Sg × Int32) := m_force_G m_isLaw m_refuses m_good
noncomputable def t_m_force (c_m_isLaw : Sg → Int32 → Option (Sg × Int32)) (c_m_refuses : Sg → Int32 → Option (Sg × Int32)) (c_m_good : Sg → Int32 → Option (Sg × Int32)) : Bk (Sg × Int32) := (s_ldA 0 (s_ldI 1 (s_call (FW_m_isLaw c_m_isLaw) 2 (s_eq0
  (s_ldA 0 (s_ic (-2) (s_call (FW_m_refuses c_m_refuses) 2 (s_iret retI))))
  (s_ldA 0 (s_getRc 10 2 43 0 (s_ic 57 (s_iald 43 5665 (s_stI 2 (s_ldA 0 (s_getRc 10 2 43 0 (s_ic 57 (s_ldI 1 (s_iast 43 5665 (s_ldA 0 (s_ldI 2 (s_call (FW_m_good c_m_good) 2 (s_iret retI))))))))))))))))))
set_option maxRecDepth 20000 in
theorem e_m_force (c_m_isLaw : Sg → Int32 → Option (Sg × Int32)) (c_m_refuses : Sg → Int32 → Option (Sg × Int32)) (c_m_good : Sg → Int32 → Option (Sg × Int32)) (s : Sg) (l1 : Int32) : m_force_G c_m_isLaw c_m_refuses c_m_good s l1 = t_m_force c_m_isLaw c_m_refuses c_m_good [some (.inr (.inr (some (10, 0)))), some (.inl l1), none] [] s := rfl
noncomputable def m_codeAt_G (s : Sg) (l1 : Int32) : Option (Sg × Int32) :=
  gif ((l1 : Int32) < (rI s 10 0 26)) (
    gd (inb (65 + l1) 5665) (
    some (s, (rI s 43 0 (ix (65 + l1))))))
  (
    some (s, 0))
noncomputable def m_codeAt : Sg → Int32 → Option (Sg × Int32) := m_codeAt_G
noncomputable def t_m_codeAt : Bk (Sg × Int32) := (s_ldI 1 (s_ldA 0 (s_getI 10 26 (s_clt
  (s_ldA 0 (s_getRc 10 2 43 0 (s_ic 65 (s_ldI 1 (s_bin (fun x y => x + y) (s_iald 43 5665 (s_goto (s_iret retI))))))))
  (s_ic 0 (s_iret retI))))))
set_option maxRecDepth 20000 in
theorem e_m_codeAt (s : Sg) (l1 : Int32) : m_codeAt_G s l1 = t_m_codeAt [some (.inr (.inr (some (10, 0)))), some (.inl l1)] [] s := rfl
noncomputable def m_passes0_G (c_m_codeAt : Sg → Int32 → Option (Sg × Int32)) (s : Sg) (l1 : Int32) : Option (Sg × Int32) :=
  (c_m_codeAt s (rI s 10 0 25)).bind fun q1 => (
  gif ((q1.2 : Int32) = l1) (
    gif ((1 : Int32) = 0) (
      gd (isB 1) (some (q1.1, 1)))
    (
      let s2 := wI q1.1 10 0 25 ((rI q1.1 10 0 25) + 1)
      gd (isB 1) (some (s2, 1))))
  (
    gif ((0 : Int32) = 0) (
      gd (isB 0) (some (q1.1, 0)))
    (
      let s3 := wI q1.1 10 0 25 ((rI q1.1 10 0 25) + 1)
      gd (isB 0) (some (s3, 0)))))
noncomputable def m_passes0 : Sg → Int32 → Option (Sg × Int32) := m_passes0_G m_codeAt
noncomputable def t_m_passes0 (c_m_codeAt : Sg → Int32 → Option (Sg × Int32)) : Bk (Sg × Int32) := (s_ldA 0 (s_ldA 0 (s_getI 10 25 (s_call (FW_m_codeAt c_m_codeAt) 2 (s_ldI 1 (s_ceq
  (s_ic 1 (s_goto (s_stI 2 (s_ldI 2 (s_eq0
    (s_ldI 2 (s_zret retI))
    (s_ldA 0 (s_dup (s_getI 10 25 (s_ic 1 (s_bin (fun x y => x + y) (s_putI 10 25 (s_ldI 2 (s_zret retI)))))))))))))
  (s_ic 0 (s_stI 2 (s_ldI 2 (s_eq0
    (s_ldI 2 (s_zret retI))
    (s_ldA 0 (s_dup (s_getI 10 25 (s_ic 1 (s_bin (fun x y => x + y) (s_putI 10 25 (s_ldI 2 (s_zret retI))))))))))))))))))
set_option maxRecDepth 20000 in
theorem e_m_passes0 (c_m_codeAt : Sg → Int32 → Option (Sg × Int32)) (s : Sg) (l1 : Int32) : m_passes0_G c_m_codeAt s l1 = t_m_passes0 c_m_codeAt [some (.inr (.inr (some (10, 0)))), some (.inl l1), none] [] s := rfl
noncomputable def m_bounded_G (s : Sg) (l1 : Int64) (l3 : Int32) : Option (Sg × Int64) :=
  gif ((l3 : Int32) = 0) (
    gif (((rI s 10 0 27) : Int32) = 0) (
      some (s, l1))
    (
      some (s, 0)))
  (
    gif ((0 : Int32) < (lg_cmp l1 1000000000)) (
      gd (isB 1) (
      let s1 := wI s 10 0 27 1
      gif (((rI s1 10 0 27) : Int32) = 0) (
        some (s1, l1))
      (
        some (s1, 0))))
    (
      gif (((lg_cmp l1 (-1000000000)) : Int32) < 0) (
        gd (isB 1) (
        let s2 := wI s 10 0 27 1
        gif (((rI s2 10 0 27) : Int32) = 0) (
          some (s2, l1))
        (
          some (s2, 0))))
      (
        gif (((rI s 10 0 27) : Int32) = 0) (
          some (s, l1))
        (
          some (s, 0)))))
noncomputable def m_bounded : Sg → Int64 → Int32 → Option (Sg × Int64) := m_bounded_G
noncomputable def t_m_bounded : Bk (Sg × Int64) := (s_ldI 3 (s_eq0
  (s_ldA 0 (s_getI 10 27 (s_eq0
    (s_ldL 1 (s_lret retL))
    (s_lc 0 (s_goto (s_lret retL))))))
  (s_ldL 1 (s_lc 1000000000 (s_lcmp (s_gt0
    (s_ldA 0 (s_ic 1 (s_putZ 10 27 (s_ldA 0 (s_getI 10 27 (s_eq0
      (s_ldL 1 (s_lret retL))
      (s_lc 0 (s_goto (s_lret retL)))))))))
    (s_ldL 1 (s_lc (-1000000000) (s_lcmp (s_lt0
      (s_ldA 0 (s_ic 1 (s_putZ 10 27 (s_ldA 0 (s_getI 10 27 (s_eq0
        (s_ldL 1 (s_lret retL))
        (s_lc 0 (s_goto (s_lret retL)))))))))
      (s_ldA 0 (s_getI 10 27 (s_eq0
        (s_ldL 1 (s_lret retL))
        (s_lc 0 (s_goto (s_lret retL))))))))))))))))
set_option maxRecDepth 20000 in
theorem e_m_bounded (s : Sg) (l1 : Int64) (l3 : Int32) : m_bounded_G s l1 l3 = t_m_bounded [some (.inr (.inr (some (10, 0)))), some (.inr (.inl l1)), none, some (.inl l3)] [] s := rfl
noncomputable def m_orderValue_G (c_m_isWord : Sg → Int32 → Option (Sg × Int32)) (c_m_endsAfter : Sg → Int32 → Option (Sg × Int32)) (c_m_isSplit : Sg → Int32 → Option (Sg × Int32)) (s : Sg) (l1 : Int32) (l2 : Int32) : Option (Sg × Int32) :=
  gif ((l1 : Int32) = 15) (
    gd (inb 14 5665) (
    some (s, (rI s 43 0 (ix 14)))))
  (
  gif ((l1 : Int32) = 16) (
    some (s, (rI s 10 0 29)))
  (
  gif ((l1 : Int32) = 17) (
    some (s, (rI s 10 0 30)))
  (
  gif ((l1 : Int32) = 18) (
    some (s, (rI s 10 0 31)))
  (
  gif ((l1 : Int32) = 19) (
    some (s, (rI s 10 0 32)))
  (
  gif ((l1 : Int32) = 20) (
    (c_m_isWord s l2).bind fun q1 => (
    gif ((q1.2 : Int32) = 0) (
      some (q1.1, (-1)))
    (
      gd (inb (2 + l2) 5665) (
      some (q1.1, (rI q1.1 43 0 (ix (2 + l2))))))))
  (
    (c_m_isWord s l2).bind fun q2 => (
    gif ((q2.2 : Int32) = 0) (
      some (q2.1, (-1)))
    (
      (c_m_endsAfter q2.1 l2).bind fun q3 => (
      gif ((q3.2 : Int32) = 0) (
        (c_m_isSplit q3.1 l2).bind fun q4 => (
        gif ((q4.2 : Int32) = 0) (
          some (q4.1, (0 + 0)))
        (
          some (q4.1, (0 + 2)))))
      (
        (c_m_isSplit q3.1 l2).bind fun q5 => (
        gif ((q5.2 : Int32) = 0) (
          some (q5.1, (1 + 0)))
        (
          some (q5.1, (1 + 2))))))))))))))
noncomputable def m_orderValue : Sg → Int32 → Int32 → Option (Sg × Int32) := m_orderValue_G m_isWord m_endsAfter m_isSplit
noncomputable def t_m_orderValue (c_m_isWord : Sg → Int32 → Option (Sg × Int32)) (c_m_endsAfter : Sg → Int32 → Option (Sg × Int32)) (c_m_isSplit : Sg → Int32 → Option (Sg × Int32)) : Bk (Sg × Int32) := (s_ldI 1 (s_sw [(15, (s_ldA 0 (s_getRc 10 2 43 0 (s_ic 14 (s_iald 43 5665 (s_iret retI)))))),
  (16, (s_ldA 0 (s_getI 10 29 (s_iret retI)))),
  (17, (s_ldA 0 (s_getI 10 30 (s_iret retI)))),
  (18, (s_ldA 0 (s_getI 10 31 (s_iret retI)))),
  (19, (s_ldA 0 (s_getI 10 32 (s_iret retI)))),
  (20, (s_ldA 0 (s_ldI 2 (s_call (FW_m_isWord c_m_isWord) 2 (s_eq0
    (s_ic (-1) (s_iret retI))
    (s_ldA 0 (s_getRc 10 2 43 0 (s_ic 2 (s_ldI 2 (s_bin (fun x y => x + y) (s_iald 43 5665 (s_goto (s_iret retI)))))))))))))]
  (s_ldA 0 (s_ldI 2 (s_call (FW_m_isWord c_m_isWord) 2 (s_eq0
    (s_ic (-1) (s_iret retI))
    (s_ldA 0 (s_ldI 2 (s_call (FW_m_endsAfter c_m_endsAfter) 2 (s_eq0
      (s_ic 0 (s_ldA 0 (s_ldI 2 (s_call (FW_m_isSplit c_m_isSplit) 2 (s_eq0
        (s_ic 0 (s_bin (fun x y => x + y) (s_goto (s_iret retI))))
        (s_ic 2 (s_goto (s_bin (fun x y => x + y) (s_goto (s_iret retI))))))))))
      (s_ic 1 (s_goto (s_ldA 0 (s_ldI 2 (s_call (FW_m_isSplit c_m_isSplit) 2 (s_eq0
        (s_ic 0 (s_bin (fun x y => x + y) (s_goto (s_iret retI))))
        (s_ic 2 (s_goto (s_bin (fun x y => x + y) (s_goto (s_iret retI)))))))))))))))))))))
set_option maxRecDepth 20000 in
theorem e_m_orderValue (c_m_isWord : Sg → Int32 → Option (Sg × Int32)) (c_m_endsAfter : Sg → Int32 → Option (Sg × Int32)) (c_m_isSplit : Sg → Int32 → Option (Sg × Int32)) (s : Sg) (l1 : Int32) (l2 : Int32) : m_orderValue_G c_m_isWord c_m_endsAfter c_m_isSplit s l1 l2 = t_m_orderValue c_m_isWord c_m_endsAfter c_m_isSplit [some (.inr (.inr (some (10, 0)))), some (.inl l1), some (.inl l2)] [] s := rfl
noncomputable def m_partOf_b87_G (c_m_orderValue : Sg → Int32 → Int32 → Option (Sg × Int32)) (s : Sg) (l1 : Int32) (l2 : Int32) (l3 : Int32) : Option (Sg × Int64) :=
  gif ((l1 : Int32) = 0) (
    some (s, 0))
  (
    gif (((rI s 10 0 27) : Int32) = 0) (
      gif ((l2 : Int32) = 50) (
        gd (inb ((2865 + (rI s 10 0 25)) - 1) 5665) (
        some (s, (Int32.toInt64 (rI s 43 0 (ix ((2865 + (rI s 10 0 25)) - 1)))))))
      (
        (c_m_orderValue s l2 l3).bind fun q1 => (
        some (q1.1, (Int32.toInt64 q1.2)))))
    (
      some (s, 0)))
noncomputable def m_partOf_b87 (so : Sg → Int32 → Option (Sg × Int64)) : Sg → Int32 → Int32 → Int32 → Option (Sg × Int64) := m_partOf_b87_G m_orderValue
noncomputable def t_m_partOf_b87 (c_m_orderValue : Sg → Int32 → Int32 → Option (Sg × Int32)) : Bk (Sg × Int64) := (s_ldI 1 (s_eq0
  (s_lc 0 (s_lret retL))
  (s_ldA 0 (s_getI 10 27 (s_eq0
    (s_ldI 2 (s_ic 50 (s_ceq
      (s_ldA 0 (s_getRc 10 2 43 0 (s_ic 2865 (s_ldA 0 (s_getI 10 25 (s_bin (fun x y => x + y) (s_ic 1 (s_bin (fun x y => x - y) (s_iald 43 5665 (s_i2l (s_lret retL)))))))))))
      (s_ldA 0 (s_ldI 2 (s_ldI 3 (s_call (FW_m_orderValue c_m_orderValue) 3 (s_i2l (s_lret retL)))))))))
    (s_lc 0 (s_lret retL)))))))
set_option maxRecDepth 20000 in
theorem e_m_partOf_b87 (c_m_orderValue : Sg → Int32 → Int32 → Option (Sg × Int32)) (s : Sg) (l1 : Int32) (l2 : Int32) (l3 : Int32) : m_partOf_b87_G c_m_orderValue s l1 l2 l3 = t_m_partOf_b87 c_m_orderValue [some (.inr (.inr (some (10, 0)))), some (.inl l1), some (.inl l2), some (.inl l3)] [] s := rfl
noncomputable def m_partOf_G (K87 : Sg → Int32 → Int32 → Int32 → Option (Sg × Int64)) (c_m_sign : Sg → Int32 → Option (Sg × Int32)) (c_m_passes0 : Sg → Int32 → Option (Sg × Int32)) (c_m_sumOf : Sg → Int32 → Option (Sg × Int64)) (c_m_codeAt : Sg → Int32 → Option (Sg × Int32)) (s : Sg) (l1 : Int32) : Option (Sg × Int64) :=
  (c_m_sign s 91).bind fun q1 => (
  (c_m_passes0 q1.1 q1.2).bind fun q2 => (
  gif ((q2.2 : Int32) = 0) (
    (c_m_codeAt q2.1 (rI q2.1 10 0 25)).bind fun q3 => (
    let s4 := wI q3.1 10 0 25 ((rI q3.1 10 0 25) + 1)
    gif ((q3.2 : Int32) = 20) (
      gd (inb (2865 + (rI s4 10 0 25)) 5665) (
      let s5 := wI s4 10 0 25 ((rI s4 10 0 25) + 1)
      K87 s5 l1 q3.2 (rI s4 43 0 (ix (2865 + (rI s4 10 0 25))))))
    (
      gif ((q3.2 : Int32) = 21) (
        gd (inb (2865 + (rI s4 10 0 25)) 5665) (
        let s6 := wI s4 10 0 25 ((rI s4 10 0 25) + 1)
        K87 s6 l1 q3.2 (rI s4 43 0 (ix (2865 + (rI s4 10 0 25))))))
      (
        K87 s4 l1 q3.2 0))))
  (
    (c_m_sumOf q2.1 l1).bind fun q7 => (
    let s8 := wI q7.1 10 0 25 ((rI q7.1 10 0 25) + 1)
    some (s8, q7.2)))))
noncomputable def m_partOf (so : Sg → Int32 → Option (Sg × Int64)) : Sg → Int32 → Option (Sg × Int64) := m_partOf_G (m_partOf_b87 so) m_sign m_passes0 so m_codeAt
noncomputable def t_m_partOf (K87 : Sg → Int32 → Int32 → Int32 → Option (Sg × Int64)) (c_m_sign : Sg → Int32 → Option (Sg × Int32)) (c_m_passes0 : Sg → Int32 → Option (Sg × Int32)) (c_m_sumOf : Sg → Int32 → Option (Sg × Int64)) (c_m_codeAt : Sg → Int32 → Option (Sg × Int32)) : Bk (Sg × Int64) := (s_ldA 0 (s_ic 91 (s_call (FW_m_sign c_m_sign) 1 (s_call (FW_m_passes0 c_m_passes0) 2 (s_eq0
  (s_ldA 0 (s_ldA 0 (s_getI 10 25 (s_call (FW_m_codeAt c_m_codeAt) 2 (s_stI 2 (s_ic 0 (s_stI 3 (s_ldA 0 (s_dup (s_getI 10 25 (s_ic 1 (s_bin (fun x y => x + y) (s_putI 10 25 (s_ldI 2 (s_ic 20 (s_ceq
    (s_ldA 0 (s_getRc 10 2 43 0 (s_ic 2865 (s_ldA 0 (s_getI 10 25 (s_bin (fun x y => x + y) (s_iald 43 5665 (s_stI 3 (s_ldA 0 (s_dup (s_getI 10 25 (s_ic 1 (s_bin (fun x y => x + y) (s_putI 10 25 (p_C 0 10 0 <| p_I 1 fun a1 => p_I 2 fun a2 => p_I 3 fun a3 => p_E fun s => K87 s a1 a2 a3)))))))))))))))
    (s_ldI 2 (s_ic 21 (s_ceq
      (s_ldA 0 (s_getRc 10 2 43 0 (s_ic 2865 (s_ldA 0 (s_getI 10 25 (s_bin (fun x y => x + y) (s_iald 43 5665 (s_stI 3 (s_ldA 0 (s_dup (s_getI 10 25 (s_ic 1 (s_bin (fun x y => x + y) (s_putI 10 25 (p_C 0 10 0 <| p_I 1 fun a1 => p_I 2 fun a2 => p_I 3 fun a3 => p_E fun s => K87 s a1 a2 a3)))))))))))))))
      (p_C 0 10 0 <| p_I 1 fun a1 => p_I 2 fun a2 => p_I 3 fun a3 => p_E fun s => K87 s a1 a2 a3))))))))))))))))))))
  (s_ldA 0 (s_ldI 1 (s_call (FW_m_sumOf c_m_sumOf) 2 (s_stL 2 (s_ldA 0 (s_dup (s_getI 10 25 (s_ic 1 (s_bin (fun x y => x + y) (s_putI 10 25 (s_ldL 2 (s_lret retL)))))))))))))))))
set_option maxRecDepth 20000 in
theorem e_m_partOf (K87 : Sg → Int32 → Int32 → Int32 → Option (Sg × Int64)) (c_m_sign : Sg → Int32 → Option (Sg × Int32)) (c_m_passes0 : Sg → Int32 → Option (Sg × Int32)) (c_m_sumOf : Sg → Int32 → Option (Sg × Int64)) (c_m_codeAt : Sg → Int32 → Option (Sg × Int32)) (s : Sg) (l1 : Int32) : m_partOf_G K87 c_m_sign c_m_passes0 c_m_sumOf c_m_codeAt s l1 = t_m_partOf K87 c_m_sign c_m_passes0 c_m_sumOf c_m_codeAt [some (.inr (.inr (some (10, 0)))), some (.inl l1), none, none] [] s := rfl
noncomputable def m_termOf_b121_G (K6 : Sg → Int32 → Int64 → Option (Sg × Int64)) (c_m_sign : Sg → Int32 → Option (Sg × Int32)) (c_m_bounded : Sg → Int64 → Int32 → Option (Sg × Int64)) (s : Sg) (l1 : Int32) (l2 : Int64) (l4 : Int32) (l5 : Int64) : Option (Sg × Int64) :=
  (c_m_sign s 42).bind fun q1 => (
  gif ((l4 : Int32) = q1.2) (
    (c_m_bounded q1.1 (l2 * l5) l1).bind fun q2 => (
    K6 q2.1 l1 q2.2))
  (
    (c_m_sign q1.1 47).bind fun q3 => (
    gif ((l4 : Int32) = q3.2) (
      gd (¬ l5 = (0 : Int64)) (
      (c_m_bounded q3.1 (l2 / l5) l1).bind fun q4 => (
      K6 q4.1 l1 q4.2)))
    (
      gd (¬ l5 = (0 : Int64)) (
      (c_m_bounded q3.1 (g_lrem l2 l5) l1).bind fun q5 => (
      K6 q5.1 l1 q5.2))))))
noncomputable def m_termOf_b121 (so : Sg → Int32 → Option (Sg × Int64)) (K6 : Sg → Int32 → Int64 → Option (Sg × Int64)) : Sg → Int32 → Int64 → Int32 → Int64 → Option (Sg × Int64) := m_termOf_b121_G K6 m_sign m_bounded
noncomputable def t_m_termOf_b121 (K6 : Sg → Int32 → Int64 → Option (Sg × Int64)) (c_m_sign : Sg → Int32 → Option (Sg × Int32)) (c_m_bounded : Sg → Int64 → Int32 → Option (Sg × Int64)) : Bk (Sg × Int64) := (s_ldA 0 (s_ldI 4 (s_ic 42 (s_call (FW_m_sign c_m_sign) 1 (s_ceq
  (s_ldL 2 (s_ldL 5 (s_lbin (fun x y => x * y) (s_goto (s_ldI 1 (s_call (FW_m_bounded c_m_bounded) 3 (s_stL 2 (s_goto (p_C 0 10 0 <| p_I 1 fun a1 => p_L 2 fun a2 => p_E fun s => K6 s a1 a2)))))))))
  (s_ldI 4 (s_ic 47 (s_call (FW_m_sign c_m_sign) 1 (s_ceq
    (s_ldL 2 (s_ldL 5 (s_ldivr (fun x y => x / y) (s_goto (s_ldI 1 (s_call (FW_m_bounded c_m_bounded) 3 (s_stL 2 (s_goto (p_C 0 10 0 <| p_I 1 fun a1 => p_L 2 fun a2 => p_E fun s => K6 s a1 a2)))))))))
    (s_ldL 2 (s_ldL 5 (s_ldivr g_lrem (s_ldI 1 (s_call (FW_m_bounded c_m_bounded) 3 (s_stL 2 (s_goto (p_C 0 10 0 <| p_I 1 fun a1 => p_L 2 fun a2 => p_E fun s => K6 s a1 a2)))))))))))))))))
set_option maxRecDepth 20000 in
theorem e_m_termOf_b121 (K6 : Sg → Int32 → Int64 → Option (Sg × Int64)) (c_m_sign : Sg → Int32 → Option (Sg × Int32)) (c_m_bounded : Sg → Int64 → Int32 → Option (Sg × Int64)) (s : Sg) (l1 : Int32) (l2 : Int64) (l4 : Int32) (l5 : Int64) : m_termOf_b121_G K6 c_m_sign c_m_bounded s l1 l2 l4 l5 = t_m_termOf_b121 K6 c_m_sign c_m_bounded [some (.inr (.inr (some (10, 0)))), some (.inl l1), some (.inr (.inl l2)), none, some (.inl l4), some (.inr (.inl l5)), none] [] s := rfl
noncomputable def m_termOf_b54_G (K121 : Sg → Int32 → Int64 → Int32 → Int64 → Option (Sg × Int64)) (c_m_codeAt : Sg → Int32 → Option (Sg × Int32)) (c_m_partOf : Sg → Int32 → Option (Sg × Int64)) (c_m_sign : Sg → Int32 → Option (Sg × Int32)) (s : Sg) (l1 : Int32) (l2 : Int64) : Option (Sg × Int64) :=
  (c_m_codeAt s (rI s 10 0 25)).bind fun q1 => (
  let s2 := wI q1.1 10 0 25 ((rI q1.1 10 0 25) + 1)
  (c_m_partOf s2 l1).bind fun q3 => (
  (c_m_sign q3.1 42).bind fun q4 => (
  gif ((q1.2 : Int32) = q4.2) (
    K121 q4.1 l1 l2 q1.2 q3.2)
  (
    gif (((lg_cmp q3.2 0) : Int32) = 0) (
      gif (((rI q4.1 10 0 27) : Int32) = 0) (
        gif ((l1 : Int32) = 0) (
          gd (isB 0) (
          let s5 := wI q4.1 10 0 27 0
          K121 s5 l1 l2 q1.2 1))
        (
          gd (isB 1) (
          let s6 := wI q4.1 10 0 27 1
          K121 s6 l1 l2 q1.2 1)))
      (
        gd (isB 1) (
        let s7 := wI q4.1 10 0 27 1
        K121 s7 l1 l2 q1.2 1)))
    (
      K121 q4.1 l1 l2 q1.2 q3.2)))))
noncomputable def m_termOf_b54 (so : Sg → Int32 → Option (Sg × Int64)) (K6 : Sg → Int32 → Int64 → Option (Sg × Int64)) : Sg → Int32 → Int64 → Option (Sg × Int64) := m_termOf_b54_G (m_termOf_b121 so K6) m_codeAt (m_partOf so) m_sign
noncomputable def t_m_termOf_b54 (K121 : Sg → Int32 → Int64 → Int32 → Int64 → Option (Sg × Int64)) (c_m_codeAt : Sg → Int32 → Option (Sg × Int32)) (c_m_partOf : Sg → Int32 → Option (Sg × Int64)) (c_m_sign : Sg → Int32 → Option (Sg × Int32)) : Bk (Sg × Int64) := (s_ldA 0 (s_ldA 0 (s_getI 10 25 (s_call (FW_m_codeAt c_m_codeAt) 2 (s_stI 4 (s_ldA 0 (s_dup (s_getI 10 25 (s_ic 1 (s_bin (fun x y => x + y) (s_putI 10 25 (s_ldA 0 (s_ldI 1 (s_call (FW_m_partOf c_m_partOf) 2 (s_stL 5 (s_ldI 4 (s_ic 42 (s_call (FW_m_sign c_m_sign) 1 (s_ceq
  (p_C 0 10 0 <| p_I 1 fun a1 => p_L 2 fun a2 => p_I 4 fun a4 => p_L 5 fun a5 => p_E fun s => K121 s a1 a2 a4 a5)
  (s_ldL 5 (s_lc 0 (s_lcmp (s_eq0
    (s_ldA 0 (s_ldA 0 (s_getI 10 27 (s_eq0
      (s_ldI 1 (s_eq0
        (s_ic 0 (s_putZ 10 27 (s_lc 1 (s_stL 5 (p_C 0 10 0 <| p_I 1 fun a1 => p_L 2 fun a2 => p_I 4 fun a4 => p_L 5 fun a5 => p_E fun s => K121 s a1 a2 a4 a5)))))
        (s_ic 1 (s_goto (s_putZ 10 27 (s_lc 1 (s_stL 5 (p_C 0 10 0 <| p_I 1 fun a1 => p_L 2 fun a2 => p_I 4 fun a4 => p_L 5 fun a5 => p_E fun s => K121 s a1 a2 a4 a5))))))))
      (s_ic 1 (s_goto (s_putZ 10 27 (s_lc 1 (s_stL 5 (p_C 0 10 0 <| p_I 1 fun a1 => p_L 2 fun a2 => p_I 4 fun a4 => p_L 5 fun a5 => p_E fun s => K121 s a1 a2 a4 a5))))))))))
    (p_C 0 10 0 <| p_I 1 fun a1 => p_L 2 fun a2 => p_I 4 fun a4 => p_L 5 fun a5 => p_E fun s => K121 s a1 a2 a4 a5))))))))))))))))))))))))
set_option maxRecDepth 20000 in
theorem e_m_termOf_b54 (K121 : Sg → Int32 → Int64 → Int32 → Int64 → Option (Sg × Int64)) (c_m_codeAt : Sg → Int32 → Option (Sg × Int32)) (c_m_partOf : Sg → Int32 → Option (Sg × Int64)) (c_m_sign : Sg → Int32 → Option (Sg × Int32)) (s : Sg) (l1 : Int32) (l2 : Int64) : m_termOf_b54_G K121 c_m_codeAt c_m_partOf c_m_sign s l1 l2 = t_m_termOf_b54 K121 c_m_codeAt c_m_partOf c_m_sign [some (.inr (.inr (some (10, 0)))), some (.inl l1), some (.inr (.inl l2)), none, none, none, none] [] s := rfl
noncomputable def m_termOf_b6_G (K54 : Sg → Int32 → Int64 → Option (Sg × Int64)) (c_m_codeAt : Sg → Int32 → Option (Sg × Int32)) (c_m_sign : Sg → Int32 → Option (Sg × Int32)) (s : Sg) (l1 : Int32) (l2 : Int64) : Option (Sg × Int64) :=
  (c_m_codeAt s (rI s 10 0 25)).bind fun q1 => (
  (c_m_sign q1.1 42).bind fun q2 => (
  gif ((q1.2 : Int32) = q2.2) (
    K54 q2.1 l1 l2)
  (
    (c_m_codeAt q2.1 (rI q2.1 10 0 25)).bind fun q3 => (
    (c_m_sign q3.1 47).bind fun q4 => (
    gif ((q3.2 : Int32) = q4.2) (
      K54 q4.1 l1 l2)
    (
      (c_m_codeAt q4.1 (rI q4.1 10 0 25)).bind fun q5 => (
      (c_m_sign q5.1 37).bind fun q6 => (
      gif ((q5.2 : Int32) = q6.2) (
        K54 q6.1 l1 l2)
      (
        some (q6.1, l2))))))))))
noncomputable def m_termOf_b6 (so : Sg → Int32 → Option (Sg × Int64)) : Nat → Sg → Int32 → Int64 → Option (Sg × Int64)
  | 0 => fun _ _ _ => none
  | n + 1 => m_termOf_b6_G (m_termOf_b54 so (m_termOf_b6 so n)) m_codeAt m_sign
noncomputable def t_m_termOf_b6 (K54 : Sg → Int32 → Int64 → Option (Sg × Int64)) (c_m_codeAt : Sg → Int32 → Option (Sg × Int32)) (c_m_sign : Sg → Int32 → Option (Sg × Int32)) : Bk (Sg × Int64) := (s_ldA 0 (s_ldA 0 (s_getI 10 25 (s_call (FW_m_codeAt c_m_codeAt) 2 (s_ic 42 (s_call (FW_m_sign c_m_sign) 1 (s_ceq
  (p_C 0 10 0 <| p_I 1 fun a1 => p_L 2 fun a2 => p_E fun s => K54 s a1 a2)
  (s_ldA 0 (s_ldA 0 (s_getI 10 25 (s_call (FW_m_codeAt c_m_codeAt) 2 (s_ic 47 (s_call (FW_m_sign c_m_sign) 1 (s_ceq
    (p_C 0 10 0 <| p_I 1 fun a1 => p_L 2 fun a2 => p_E fun s => K54 s a1 a2)
    (s_ldA 0 (s_ldA 0 (s_getI 10 25 (s_call (FW_m_codeAt c_m_codeAt) 2 (s_ic 37 (s_call (FW_m_sign c_m_sign) 1 (s_ceq
      (p_C 0 10 0 <| p_I 1 fun a1 => p_L 2 fun a2 => p_E fun s => K54 s a1 a2)
      (s_ldL 2 (s_lret retL)))))))))))))))))))))))
set_option maxRecDepth 20000 in
theorem e_m_termOf_b6 (K54 : Sg → Int32 → Int64 → Option (Sg × Int64)) (c_m_codeAt : Sg → Int32 → Option (Sg × Int32)) (c_m_sign : Sg → Int32 → Option (Sg × Int32)) (s : Sg) (l1 : Int32) (l2 : Int64) : m_termOf_b6_G K54 c_m_codeAt c_m_sign s l1 l2 = t_m_termOf_b6 K54 c_m_codeAt c_m_sign [some (.inr (.inr (some (10, 0)))), some (.inl l1), some (.inr (.inl l2)), none, none, none, none] [] s := rfl
noncomputable def m_termOf_G (K6 : Sg → Int32 → Int64 → Option (Sg × Int64)) (c_m_partOf : Sg → Int32 → Option (Sg × Int64)) (s : Sg) (l1 : Int32) : Option (Sg × Int64) :=
  (c_m_partOf s l1).bind fun q1 => (
  K6 q1.1 l1 q1.2)
noncomputable def m_termOf (so : Sg → Int32 → Option (Sg × Int64)) : Sg → Int32 → Option (Sg × Int64) := m_termOf_G (m_termOf_b6 so FU) (m_partOf so)
noncomputable def t_m_termOf (K6 : Sg → Int32 → Int64 → Option (Sg × Int64)) (c_m_partOf : Sg → Int32 → Option (Sg × Int64)) : Bk (Sg × Int64) := (s_ldA 0 (s_ldI 1 (s_call (FW_m_partOf c_m_partOf) 2 (s_stL 2 (p_C 0 10 0 <| p_I 1 fun a1 => p_L 2 fun a2 => p_E fun s => K6 s a1 a2)))))
set_option maxRecDepth 20000 in
theorem e_m_termOf (K6 : Sg → Int32 → Int64 → Option (Sg × Int64)) (c_m_partOf : Sg → Int32 → Option (Sg × Int64)) (s : Sg) (l1 : Int32) : m_termOf_G K6 c_m_partOf s l1 = t_m_termOf K6 c_m_partOf [some (.inr (.inr (some (10, 0)))), some (.inl l1), none, none, none, none, none] [] s := rfl
noncomputable def m_sumOf_b59_G (K6 : Sg → Int32 → Int64 → Option (Sg × Int64)) (c_m_termOf : Sg → Int32 → Option (Sg × Int64)) (c_m_bounded : Sg → Int64 → Int32 → Option (Sg × Int64)) (s : Sg) (l1 : Int32) (l2 : Int64) (y0 : Int32) : Option (Sg × Int64) :=
  let s1 := wI s 10 0 25 ((rI s 10 0 25) + 1)
  (c_m_termOf s1 l1).bind fun q2 => (
  gif ((y0 : Int32) = 0) (
    (c_m_bounded q2.1 (l2 - q2.2) l1).bind fun q3 => (
    K6 q3.1 l1 q3.2))
  (
    (c_m_bounded q2.1 (l2 + q2.2) l1).bind fun q4 => (
    K6 q4.1 l1 q4.2)))
noncomputable def m_sumOf_b59 (so : Sg → Int32 → Option (Sg × Int64)) (K6 : Sg → Int32 → Int64 → Option (Sg × Int64)) : Sg → Int32 → Int64 → Int32 → Option (Sg × Int64) := m_sumOf_b59_G K6 (m_termOf so) m_bounded
noncomputable def t_m_sumOf_b59 (K6 : Sg → Int32 → Int64 → Option (Sg × Int64)) (c_m_termOf : Sg → Int32 → Option (Sg × Int64)) (c_m_bounded : Sg → Int64 → Int32 → Option (Sg × Int64)) : Bk (Sg × Int64) := (s_stI 4 (s_ldA 0 (s_dup (s_getI 10 25 (s_ic 1 (s_bin (fun x y => x + y) (s_putI 10 25 (s_ldA 0 (s_ldI 1 (s_call (FW_m_termOf c_m_termOf) 2 (s_stL 5 (s_ldA 0 (s_ldI 4 (s_eq0
  (s_ldL 2 (s_ldL 5 (s_lbin (fun x y => x - y) (s_ldI 1 (s_call (FW_m_bounded c_m_bounded) 3 (s_stL 2 (s_goto (p_C 0 10 0 <| p_I 1 fun a1 => p_L 2 fun a2 => p_E fun s => K6 s a1 a2))))))))
  (s_ldL 2 (s_ldL 5 (s_lbin (fun x y => x + y) (s_goto (s_ldI 1 (s_call (FW_m_bounded c_m_bounded) 3 (s_stL 2 (s_goto (p_C 0 10 0 <| p_I 1 fun a1 => p_L 2 fun a2 => p_E fun s => K6 s a1 a2)))))))))))))))))))))))
set_option maxRecDepth 20000 in
theorem e_m_sumOf_b59 (K6 : Sg → Int32 → Int64 → Option (Sg × Int64)) (c_m_termOf : Sg → Int32 → Option (Sg × Int64)) (c_m_bounded : Sg → Int64 → Int32 → Option (Sg × Int64)) (s : Sg) (l1 : Int32) (l2 : Int64) (y0 : Int32) : m_sumOf_b59_G K6 c_m_termOf c_m_bounded s l1 l2 y0 = t_m_sumOf_b59 K6 c_m_termOf c_m_bounded [some (.inr (.inr (some (10, 0)))), some (.inl l1), some (.inr (.inl l2)), none, none, none, none] [.inl y0] s := rfl
noncomputable def m_sumOf_b6_G (K59 : Sg → Int32 → Int64 → Int32 → Option (Sg × Int64)) (c_m_codeAt : Sg → Int32 → Option (Sg × Int32)) (c_m_sign : Sg → Int32 → Option (Sg × Int32)) (s : Sg) (l1 : Int32) (l2 : Int64) : Option (Sg × Int64) :=
  (c_m_codeAt s (rI s 10 0 25)).bind fun q1 => (
  (c_m_sign q1.1 43).bind fun q2 => (
  gif ((q1.2 : Int32) = q2.2) (
    (c_m_codeAt q2.1 (rI q2.1 10 0 25)).bind fun q3 => (
    (c_m_sign q3.1 43).bind fun q4 => (
    gif ((q3.2 : Int32) = q4.2) (
      K59 q4.1 l1 l2 1)
    (
      K59 q4.1 l1 l2 0))))
  (
    (c_m_codeAt q2.1 (rI q2.1 10 0 25)).bind fun q5 => (
    (c_m_sign q5.1 45).bind fun q6 => (
    gif ((q5.2 : Int32) = q6.2) (
      (c_m_codeAt q6.1 (rI q6.1 10 0 25)).bind fun q7 => (
      (c_m_sign q7.1 43).bind fun q8 => (
      gif ((q7.2 : Int32) = q8.2) (
        K59 q8.1 l1 l2 1)
      (
        K59 q8.1 l1 l2 0))))
    (
      some (q6.1, l2)))))))
noncomputable def m_sumOf_b6 (so : Sg → Int32 → Option (Sg × Int64)) : Nat → Sg → Int32 → Int64 → Option (Sg × Int64)
  | 0 => fun _ _ _ => none
  | n + 1 => m_sumOf_b6_G (m_sumOf_b59 so (m_sumOf_b6 so n)) m_codeAt m_sign
noncomputable def t_m_sumOf_b6 (K59 : Sg → Int32 → Int64 → Int32 → Option (Sg × Int64)) (c_m_codeAt : Sg → Int32 → Option (Sg × Int32)) (c_m_sign : Sg → Int32 → Option (Sg × Int32)) : Bk (Sg × Int64) := (s_ldA 0 (s_ldA 0 (s_getI 10 25 (s_call (FW_m_codeAt c_m_codeAt) 2 (s_ic 43 (s_call (FW_m_sign c_m_sign) 1 (s_ceq
  (s_ldA 0 (s_ldA 0 (s_getI 10 25 (s_call (FW_m_codeAt c_m_codeAt) 2 (s_ic 43 (s_call (FW_m_sign c_m_sign) 1 (s_ceq
    (s_ic 1 (s_goto (p_C 0 10 0 <| p_I 1 fun a1 => p_L 2 fun a2 => q_I fun b0 => p_E fun s => K59 s a1 a2 b0)))
    (s_ic 0 (p_C 0 10 0 <| p_I 1 fun a1 => p_L 2 fun a2 => q_I fun b0 => p_E fun s => K59 s a1 a2 b0)))))))))
  (s_ldA 0 (s_ldA 0 (s_getI 10 25 (s_call (FW_m_codeAt c_m_codeAt) 2 (s_ic 45 (s_call (FW_m_sign c_m_sign) 1 (s_ceq
    (s_ldA 0 (s_ldA 0 (s_getI 10 25 (s_call (FW_m_codeAt c_m_codeAt) 2 (s_ic 43 (s_call (FW_m_sign c_m_sign) 1 (s_ceq
      (s_ic 1 (s_goto (p_C 0 10 0 <| p_I 1 fun a1 => p_L 2 fun a2 => q_I fun b0 => p_E fun s => K59 s a1 a2 b0)))
      (s_ic 0 (p_C 0 10 0 <| p_I 1 fun a1 => p_L 2 fun a2 => q_I fun b0 => p_E fun s => K59 s a1 a2 b0)))))))))
    (s_ldL 2 (s_lret retL))))))))))))))))
set_option maxRecDepth 20000 in
theorem e_m_sumOf_b6 (K59 : Sg → Int32 → Int64 → Int32 → Option (Sg × Int64)) (c_m_codeAt : Sg → Int32 → Option (Sg × Int32)) (c_m_sign : Sg → Int32 → Option (Sg × Int32)) (s : Sg) (l1 : Int32) (l2 : Int64) : m_sumOf_b6_G K59 c_m_codeAt c_m_sign s l1 l2 = t_m_sumOf_b6 K59 c_m_codeAt c_m_sign [some (.inr (.inr (some (10, 0)))), some (.inl l1), some (.inr (.inl l2)), none, none, none, none] [] s := rfl
noncomputable def m_sumOf_G (K6 : Sg → Int32 → Int64 → Option (Sg × Int64)) (c_m_termOf : Sg → Int32 → Option (Sg × Int64)) (s : Sg) (l1 : Int32) : Option (Sg × Int64) :=
  (c_m_termOf s l1).bind fun q1 => (
  K6 q1.1 l1 q1.2)
noncomputable def m_sumOf : Nat → Sg → Int32 → Option (Sg × Int64)
  | 0 => fun _ _ => none
  | d + 1 => m_sumOf_G (m_sumOf_b6 (m_sumOf d) FU) (m_termOf (m_sumOf d))
noncomputable def t_m_sumOf (K6 : Sg → Int32 → Int64 → Option (Sg × Int64)) (c_m_termOf : Sg → Int32 → Option (Sg × Int64)) : Bk (Sg × Int64) := (s_ldA 0 (s_ldI 1 (s_call (FW_m_termOf c_m_termOf) 2 (s_stL 2 (p_C 0 10 0 <| p_I 1 fun a1 => p_L 2 fun a2 => p_E fun s => K6 s a1 a2)))))
set_option maxRecDepth 20000 in
theorem e_m_sumOf (K6 : Sg → Int32 → Int64 → Option (Sg × Int64)) (c_m_termOf : Sg → Int32 → Option (Sg × Int64)) (s : Sg) (l1 : Int32) : m_sumOf_G K6 c_m_termOf s l1 = t_m_sumOf K6 c_m_termOf [some (.inr (.inr (some (10, 0)))), some (.inl l1), none, none, none, none, none] [] s := rfl
noncomputable def m_positiveOf_G (c_m_sign : Sg → Int32 → Option (Sg × Int32)) (c_m_passes0 : Sg → Int32 → Option (Sg × Int32)) (c_m_testOf : Sg → Int32 → Option (Sg × Int32)) (c_m_sumOf : Sg → Int32 → Option (Sg × Int64)) (c_m_codeAt : Sg → Int32 → Option (Sg × Int32)) (s : Sg) (l1 : Int32) : Option (Sg × Int32) :=
  (c_m_sign s 40).bind fun q1 => (
  (c_m_passes0 q1.1 q1.2).bind fun q2 => (
  gif ((q2.2 : Int32) = 0) (
    (c_m_sumOf q2.1 l1).bind fun q3 => (
    (c_m_codeAt q3.1 (rI q3.1 10 0 25)).bind fun q4 => (
    let s5 := wI q4.1 10 0 25 ((rI q4.1 10 0 25) + 1)
    (c_m_sumOf s5 l1).bind fun q6 => (
    gif ((l1 : Int32) = 0) (
      gd (isB 0) (some (q6.1, 0)))
    (
      gif (((rI q6.1 10 0 27) : Int32) = 0) (
        (c_m_sign q6.1 60).bind fun q7 => (
        gif ((q4.2 : Int32) = q7.2) (
          gif (((lg_cmp q3.2 q6.2) : Int32) < 0) (
            gd (isB 1) (some (q7.1, 1)))
          (
            gd (isB 0) (some (q7.1, 0))))
        (
          (c_m_sign q7.1 62).bind fun q8 => (
          gif ((q4.2 : Int32) = q8.2) (
            gif ((0 : Int32) < (lg_cmp q3.2 q6.2)) (
              gd (isB 1) (some (q8.1, 1)))
            (
              gd (isB 0) (some (q8.1, 0))))
          (
            gif (((lg_cmp q3.2 q6.2) : Int32) = 0) (
              gd (isB 1) (some (q8.1, 1)))
            (
              gd (isB 0) (some (q8.1, 0))))))))
      (
        gd (isB 0) (some (q6.1, 0))))))))
  (
    (c_m_testOf q2.1 l1).bind fun q9 => (
    let s10 := wI q9.1 10 0 25 ((rI q9.1 10 0 25) + 1)
    gd (isB q9.2) (some (s10, q9.2))))))
noncomputable def m_positiveOf (to : Sg → Int32 → Option (Sg × Int32)) : Sg → Int32 → Option (Sg × Int32) := m_positiveOf_G m_sign m_passes0 to (m_sumOf DR) m_codeAt
noncomputable def t_m_positiveOf (c_m_sign : Sg → Int32 → Option (Sg × Int32)) (c_m_passes0 : Sg → Int32 → Option (Sg × Int32)) (c_m_testOf : Sg → Int32 → Option (Sg × Int32)) (c_m_sumOf : Sg → Int32 → Option (Sg × Int64)) (c_m_codeAt : Sg → Int32 → Option (Sg × Int32)) : Bk (Sg × Int32) := (s_ldA 0 (s_ic 40 (s_call (FW_m_sign c_m_sign) 1 (s_call (FW_m_passes0 c_m_passes0) 2 (s_eq0
  (s_ldA 0 (s_ldI 1 (s_call (FW_m_sumOf c_m_sumOf) 2 (s_stL 2 (s_ldA 0 (s_ldA 0 (s_getI 10 25 (s_call (FW_m_codeAt c_m_codeAt) 2 (s_stI 4 (s_ldA 0 (s_dup (s_getI 10 25 (s_ic 1 (s_bin (fun x y => x + y) (s_putI 10 25 (s_ldA 0 (s_ldI 1 (s_call (FW_m_sumOf c_m_sumOf) 2 (s_stL 5 (s_ldI 1 (s_eq0
    (s_ic 0 (s_zret retI))
    (s_ldA 0 (s_getI 10 27 (s_eq0
      (s_ldI 4 (s_ic 60 (s_call (FW_m_sign c_m_sign) 1 (s_ceq
        (s_ldL 2 (s_ldL 5 (s_lcmp (s_lt0
          (s_goto (s_ic 1 (s_goto (s_zret retI))))
          (s_ic 0 (s_zret retI))))))
        (s_ldI 4 (s_ic 62 (s_call (FW_m_sign c_m_sign) 1 (s_ceq
          (s_ldL 2 (s_ldL 5 (s_lcmp (s_gt0
            (s_goto (s_ic 1 (s_goto (s_zret retI))))
            (s_ic 0 (s_zret retI))))))
          (s_ldL 2 (s_ldL 5 (s_lcmp (s_eq0
            (s_ic 1 (s_goto (s_zret retI)))
            (s_ic 0 (s_zret retI))))))))))))))
      (s_ic 0 (s_zret retI))))))))))))))))))))))))))
  (s_ldA 0 (s_ldI 1 (s_call (FW_m_testOf c_m_testOf) 2 (s_stI 2 (s_ldA 0 (s_dup (s_getI 10 25 (s_ic 1 (s_bin (fun x y => x + y) (s_putI 10 25 (s_ldI 2 (s_zret retI)))))))))))))))))
set_option maxRecDepth 20000 in
theorem e_m_positiveOf (c_m_sign : Sg → Int32 → Option (Sg × Int32)) (c_m_passes0 : Sg → Int32 → Option (Sg × Int32)) (c_m_testOf : Sg → Int32 → Option (Sg × Int32)) (c_m_sumOf : Sg → Int32 → Option (Sg × Int64)) (c_m_codeAt : Sg → Int32 → Option (Sg × Int32)) (s : Sg) (l1 : Int32) : m_positiveOf_G c_m_sign c_m_passes0 c_m_testOf c_m_sumOf c_m_codeAt s l1 = t_m_positiveOf c_m_sign c_m_passes0 c_m_testOf c_m_sumOf c_m_codeAt [some (.inr (.inr (some (10, 0)))), some (.inl l1), none, none, none, none, none] [] s := rfl
noncomputable def m_plainOf_b2_G (K2 : Sg → Int32 → Int32 → Option (Sg × Int32)) (c_m_passes0 : Sg → Int32 → Option (Sg × Int32)) (c_m_positiveOf : Sg → Int32 → Option (Sg × Int32)) (s : Sg) (l1 : Int32) (l2 : Int32) : Option (Sg × Int32) :=
  (c_m_passes0 s 7).bind fun q1 => (
  gif ((q1.2 : Int32) = 0) (
    (c_m_positiveOf q1.1 l1).bind fun q2 => (
    gif ((q2.2 : Int32) = l2) (
      gd (isB 0) (some (q2.1, 0)))
    (
      gd (isB 1) (some (q2.1, 1)))))
  (
    gif ((l2 : Int32) = 0) (
      K2 q1.1 l1 1)
    (
      K2 q1.1 l1 0)))
noncomputable def m_plainOf_b2 (to : Sg → Int32 → Option (Sg × Int32)) : Nat → Sg → Int32 → Int32 → Option (Sg × Int32)
  | 0 => fun _ _ _ => none
  | n + 1 => m_plainOf_b2_G (m_plainOf_b2 to n) m_passes0 (m_positiveOf to)
noncomputable def t_m_plainOf_b2 (K2 : Sg → Int32 → Int32 → Option (Sg × Int32)) (c_m_passes0 : Sg → Int32 → Option (Sg × Int32)) (c_m_positiveOf : Sg → Int32 → Option (Sg × Int32)) : Bk (Sg × Int32) := (s_ldA 0 (s_ic 7 (s_call (FW_m_passes0 c_m_passes0) 2 (s_eq0
  (s_ldA 0 (s_ldI 1 (s_call (FW_m_positiveOf c_m_positiveOf) 2 (s_ldI 2 (s_ceq
    (s_ic 0 (s_zret retI))
    (s_ic 1 (s_goto (s_zret retI))))))))
  (s_ldI 2 (s_eq0
    (s_ic 1 (s_goto (s_stI 2 (s_goto (p_C 0 10 0 <| p_I 1 fun a1 => p_I 2 fun a2 => p_E fun s => K2 s a1 a2)))))
    (s_ic 0 (s_stI 2 (s_goto (p_C 0 10 0 <| p_I 1 fun a1 => p_I 2 fun a2 => p_E fun s => K2 s a1 a2))))))))))
set_option maxRecDepth 20000 in
theorem e_m_plainOf_b2 (K2 : Sg → Int32 → Int32 → Option (Sg × Int32)) (c_m_passes0 : Sg → Int32 → Option (Sg × Int32)) (c_m_positiveOf : Sg → Int32 → Option (Sg × Int32)) (s : Sg) (l1 : Int32) (l2 : Int32) : m_plainOf_b2_G K2 c_m_passes0 c_m_positiveOf s l1 l2 = t_m_plainOf_b2 K2 c_m_passes0 c_m_positiveOf [some (.inr (.inr (some (10, 0)))), some (.inl l1), some (.inl l2)] [] s := rfl
noncomputable def m_plainOf_G (K2 : Sg → Int32 → Int32 → Option (Sg × Int32)) (s : Sg) (l1 : Int32) : Option (Sg × Int32) :=
  K2 s l1 0
noncomputable def m_plainOf (to : Sg → Int32 → Option (Sg × Int32)) : Sg → Int32 → Option (Sg × Int32) := m_plainOf_G (m_plainOf_b2 to FU)
noncomputable def t_m_plainOf (K2 : Sg → Int32 → Int32 → Option (Sg × Int32)) : Bk (Sg × Int32) := (s_ic 0 (s_stI 2 (p_C 0 10 0 <| p_I 1 fun a1 => p_I 2 fun a2 => p_E fun s => K2 s a1 a2)))
set_option maxRecDepth 20000 in
theorem e_m_plainOf (K2 : Sg → Int32 → Int32 → Option (Sg × Int32)) (s : Sg) (l1 : Int32) : m_plainOf_G K2 s l1 = t_m_plainOf K2 [some (.inr (.inr (some (10, 0)))), some (.inl l1), none] [] s := rfl
noncomputable def m_bothOf_b29_G (K6 : Sg → Int32 → Int32 → Option (Sg × Int32)) (c_m_plainOf : Sg → Int32 → Option (Sg × Int32)) (s : Sg) (l1 : Int32) (l2 : Int32) (y1 : Int32) : Option (Sg × Int32) :=
  (c_m_plainOf s y1).bind fun q1 => (
  gif ((l2 : Int32) = 0) (
    K6 q1.1 l1 0)
  (
    gif ((q1.2 : Int32) = 0) (
      K6 q1.1 l1 0)
    (
      K6 q1.1 l1 1)))
noncomputable def m_bothOf_b29 (to : Sg → Int32 → Option (Sg × Int32)) (K6 : Sg → Int32 → Int32 → Option (Sg × Int32)) : Sg → Int32 → Int32 → Int32 → Option (Sg × Int32) := m_bothOf_b29_G K6 (m_plainOf to)
noncomputable def t_m_bothOf_b29 (K6 : Sg → Int32 → Int32 → Option (Sg × Int32)) (c_m_plainOf : Sg → Int32 → Option (Sg × Int32)) : Bk (Sg × Int32) := (s_call (FW_m_plainOf c_m_plainOf) 2 (s_stI 3 (s_ldI 2 (s_eq0
  (s_ic 0 (s_stI 2 (s_goto (p_C 0 10 0 <| p_I 1 fun a1 => p_I 2 fun a2 => p_E fun s => K6 s a1 a2))))
  (s_ldI 3 (s_eq0
    (s_ic 0 (s_stI 2 (s_goto (p_C 0 10 0 <| p_I 1 fun a1 => p_I 2 fun a2 => p_E fun s => K6 s a1 a2))))
    (s_ic 1 (s_goto (s_stI 2 (s_goto (p_C 0 10 0 <| p_I 1 fun a1 => p_I 2 fun a2 => p_E fun s => K6 s a1 a2)))))))))))
set_option maxRecDepth 20000 in
theorem e_m_bothOf_b29 (K6 : Sg → Int32 → Int32 → Option (Sg × Int32)) (c_m_plainOf : Sg → Int32 → Option (Sg × Int32)) (s : Sg) (l1 : Int32) (l2 : Int32) (y1 : Int32) : m_bothOf_b29_G K6 c_m_plainOf s l1 l2 y1 = t_m_bothOf_b29 K6 c_m_plainOf [some (.inr (.inr (some (10, 0)))), some (.inl l1), some (.inl l2), none] [.inl y1, .inr (.inr (some (10, 0)))] s := rfl
noncomputable def m_bothOf_b6_G (K29 : Sg → Int32 → Int32 → Int32 → Option (Sg × Int32)) (c_m_passes0 : Sg → Int32 → Option (Sg × Int32)) (s : Sg) (l1 : Int32) (l2 : Int32) : Option (Sg × Int32) :=
  (c_m_passes0 s 6).bind fun q1 => (
  gif ((q1.2 : Int32) = 0) (
    gd (isB l2) (some (q1.1, l2)))
  (
    gif ((l1 : Int32) = 0) (
      K29 q1.1 l1 l2 0)
    (
      gif ((l2 : Int32) = 0) (
        K29 q1.1 l1 l2 0)
      (
        K29 q1.1 l1 l2 1))))
noncomputable def m_bothOf_b6 (to : Sg → Int32 → Option (Sg × Int32)) : Nat → Sg → Int32 → Int32 → Option (Sg × Int32)
  | 0 => fun _ _ _ => none
  | n + 1 => m_bothOf_b6_G (m_bothOf_b29 to (m_bothOf_b6 to n)) m_passes0
noncomputable def t_m_bothOf_b6 (K29 : Sg → Int32 → Int32 → Int32 → Option (Sg × Int32)) (c_m_passes0 : Sg → Int32 → Option (Sg × Int32)) : Bk (Sg × Int32) := (s_ldA 0 (s_ic 6 (s_call (FW_m_passes0 c_m_passes0) 2 (s_eq0
  (s_ldI 2 (s_zret retI))
  (s_ldA 0 (s_ldI 1 (s_eq0
    (s_ic 0 (p_C 0 10 0 <| p_I 1 fun a1 => p_I 2 fun a2 => q_I fun b1 => q_C 10 0 <| p_E fun s => K29 s a1 a2 b1))
    (s_ldI 2 (s_eq0
      (s_ic 0 (p_C 0 10 0 <| p_I 1 fun a1 => p_I 2 fun a2 => q_I fun b1 => q_C 10 0 <| p_E fun s => K29 s a1 a2 b1))
      (s_ic 1 (s_goto (p_C 0 10 0 <| p_I 1 fun a1 => p_I 2 fun a2 => q_I fun b1 => q_C 10 0 <| p_E fun s => K29 s a1 a2 b1))))))))))))
set_option maxRecDepth 20000 in
theorem e_m_bothOf_b6 (K29 : Sg → Int32 → Int32 → Int32 → Option (Sg × Int32)) (c_m_passes0 : Sg → Int32 → Option (Sg × Int32)) (s : Sg) (l1 : Int32) (l2 : Int32) : m_bothOf_b6_G K29 c_m_passes0 s l1 l2 = t_m_bothOf_b6 K29 c_m_passes0 [some (.inr (.inr (some (10, 0)))), some (.inl l1), some (.inl l2), none] [] s := rfl
noncomputable def m_bothOf_G (K6 : Sg → Int32 → Int32 → Option (Sg × Int32)) (c_m_plainOf : Sg → Int32 → Option (Sg × Int32)) (s : Sg) (l1 : Int32) : Option (Sg × Int32) :=
  (c_m_plainOf s l1).bind fun q1 => (
  K6 q1.1 l1 q1.2)
noncomputable def m_bothOf (to : Sg → Int32 → Option (Sg × Int32)) : Sg → Int32 → Option (Sg × Int32) := m_bothOf_G (m_bothOf_b6 to FU) (m_plainOf to)
noncomputable def t_m_bothOf (K6 : Sg → Int32 → Int32 → Option (Sg × Int32)) (c_m_plainOf : Sg → Int32 → Option (Sg × Int32)) : Bk (Sg × Int32) := (s_ldA 0 (s_ldI 1 (s_call (FW_m_plainOf c_m_plainOf) 2 (s_stI 2 (p_C 0 10 0 <| p_I 1 fun a1 => p_I 2 fun a2 => p_E fun s => K6 s a1 a2)))))
set_option maxRecDepth 20000 in
theorem e_m_bothOf (K6 : Sg → Int32 → Int32 → Option (Sg × Int32)) (c_m_plainOf : Sg → Int32 → Option (Sg × Int32)) (s : Sg) (l1 : Int32) : m_bothOf_G K6 c_m_plainOf s l1 = t_m_bothOf K6 c_m_plainOf [some (.inr (.inr (some (10, 0)))), some (.inl l1), none, none] [] s := rfl
