noncomputable def m_allOf_b8_G (K8 : Sg → Int32 → Int32 → Int32 → Option (Sg × Int32)) (c_m_takesSet : Sg → Int32 → Option Sg) (c_m_costsNow : Sg → Option (Sg × Int32)) (c_m_paysNow : Sg → Option (Sg × Int32)) (c_m_fitsNow : Sg → Option (Sg × Int32)) (s : Sg) (l1 : Int32) (l2 : Int32) (l3 : Int32) : Option (Sg × Int32) :=
  gif ((l3 : Int32) < (rI s 10 0 43)) (
    (c_m_takesSet s l3).bind fun s1 => (
    gif ((l1 : Int32) = 0) (
      (c_m_costsNow s1).bind fun q2 => (
      K8 q2.1 l1 (l2 + q2.2) (l3 + 1)))
    (
      gif ((l1 : Int32) = 1) (
        (c_m_paysNow s1).bind fun q3 => (
        K8 q3.1 l1 (l2 + q3.2) (l3 + 1)))
      (
        (c_m_fitsNow s1).bind fun q4 => (
        gif ((q4.2 : Int32) = 0) (
          K8 q4.1 l1 (l2 + 0) (l3 + 1))
        (
          K8 q4.1 l1 (l2 + 1) (l3 + 1)))))))
  (
    some (s, l2))
noncomputable def m_allOf_b8 : Nat → Sg → Int32 → Int32 → Int32 → Option (Sg × Int32)
  | 0 => fun _ _ _ _ => none
  | n + 1 => m_allOf_b8_G (m_allOf_b8 n) m_takesSet m_costsNow m_paysNow m_fitsNow
noncomputable def t_m_allOf_b8 (K8 : Sg → Int32 → Int32 → Int32 → Option (Sg × Int32)) (c_m_takesSet : Sg → Int32 → Option Sg) (c_m_costsNow : Sg → Option (Sg × Int32)) (c_m_paysNow : Sg → Option (Sg × Int32)) (c_m_fitsNow : Sg → Option (Sg × Int32)) : Bk (Sg × Int32) := (s_ldI 3 (s_ldA 0 (s_getI 10 43 (s_clt
  (s_ldA 0 (s_ldI 3 (s_call (FW_m_takesSet c_m_takesSet) 2 (s_ldI 2 (s_ldI 1 (s_eq0
    (s_ldA 0 (s_call (FW_m_costsNow c_m_costsNow) 1 (s_goto (s_bin (fun x y => x + y) (s_stI 2 (s_inc 3 1 (s_goto (p_C 0 10 0 <| p_I 1 fun a1 => p_I 2 fun a2 => p_I 3 fun a3 => p_E fun s => K8 s a1 a2 a3))))))))
    (s_ldI 1 (s_ic 1 (s_ceq
      (s_ldA 0 (s_call (FW_m_paysNow c_m_paysNow) 1 (s_goto (s_bin (fun x y => x + y) (s_stI 2 (s_inc 3 1 (s_goto (p_C 0 10 0 <| p_I 1 fun a1 => p_I 2 fun a2 => p_I 3 fun a3 => p_E fun s => K8 s a1 a2 a3))))))))
      (s_ldA 0 (s_call (FW_m_fitsNow c_m_fitsNow) 1 (s_eq0
        (s_ic 0 (s_bin (fun x y => x + y) (s_stI 2 (s_inc 3 1 (s_goto (p_C 0 10 0 <| p_I 1 fun a1 => p_I 2 fun a2 => p_I 3 fun a3 => p_E fun s => K8 s a1 a2 a3))))))
        (s_ic 1 (s_goto (s_bin (fun x y => x + y) (s_stI 2 (s_inc 3 1 (s_goto (p_C 0 10 0 <| p_I 1 fun a1 => p_I 2 fun a2 => p_I 3 fun a3 => p_E fun s => K8 s a1 a2 a3)))))))))))))))))))
  (s_ldI 2 (s_iret retI))))))
set_option maxRecDepth 20000 in
theorem e_m_allOf_b8 (K8 : Sg → Int32 → Int32 → Int32 → Option (Sg × Int32)) (c_m_takesSet : Sg → Int32 → Option Sg) (c_m_costsNow : Sg → Option (Sg × Int32)) (c_m_paysNow : Sg → Option (Sg × Int32)) (c_m_fitsNow : Sg → Option (Sg × Int32)) (s : Sg) (l1 : Int32) (l2 : Int32) (l3 : Int32) : m_allOf_b8_G K8 c_m_takesSet c_m_costsNow c_m_paysNow c_m_fitsNow s l1 l2 l3 = t_m_allOf_b8 K8 c_m_takesSet c_m_costsNow c_m_paysNow c_m_fitsNow [some (.inr (.inr (some (10, 0)))), some (.inl l1), some (.inl l2), some (.inl l3)] [] s := rfl
noncomputable def m_allOf_G (K8 : Sg → Int32 → Int32 → Int32 → Option (Sg × Int32)) (c_m_laysSetting : Sg → Option Sg) (s : Sg) (l1 : Int32) : Option (Sg × Int32) :=
  (c_m_laysSetting s).bind fun s1 => (
  K8 s1 l1 0 0)
noncomputable def m_allOf : Sg → Int32 → Option (Sg × Int32) := m_allOf_G (m_allOf_b8 FU) m_laysSetting
noncomputable def t_m_allOf (K8 : Sg → Int32 → Int32 → Int32 → Option (Sg × Int32)) (c_m_laysSetting : Sg → Option Sg) : Bk (Sg × Int32) := (s_ldA 0 (s_call (FW_m_laysSetting c_m_laysSetting) 1 (s_ic 0 (s_stI 2 (s_ic 0 (s_stI 3 (p_C 0 10 0 <| p_I 1 fun a1 => p_I 2 fun a2 => p_I 3 fun a3 => p_E fun s => K8 s a1 a2 a3)))))))
set_option maxRecDepth 20000 in
theorem e_m_allOf (K8 : Sg → Int32 → Int32 → Int32 → Option (Sg × Int32)) (c_m_laysSetting : Sg → Option Sg) (s : Sg) (l1 : Int32) : m_allOf_G K8 c_m_laysSetting s l1 = t_m_allOf K8 c_m_laysSetting [some (.inr (.inr (some (10, 0)))), some (.inl l1), none, none] [] s := rfl
noncomputable def m_all_G (c_m_lies : Sg → Int32 → Int32 → Int32 → Option (Sg × Int32)) (c_m_allOf : Sg → Int32 → Option (Sg × Int32)) (s : Sg) (l1 : Int32) : Option (Sg × Int32) :=
  (c_m_lies s l1 0 2).bind fun q1 => (
  gif ((q1.2 : Int32) = 0) (
    some (q1.1, (-1)))
  (
    (c_m_allOf q1.1 l1).bind fun q2 => (
    some (q2.1, q2.2))))
noncomputable def m_all : Sg → Int32 → Option (Sg × Int32) := m_all_G m_lies m_allOf
noncomputable def t_m_all (c_m_lies : Sg → Int32 → Int32 → Int32 → Option (Sg × Int32)) (c_m_allOf : Sg → Int32 → Option (Sg × Int32)) : Bk (Sg × Int32) := (s_ldI 1 (s_ic 0 (s_ic 2 (s_call (FW_m_lies c_m_lies) 3 (s_eq0
  (s_ic (-1) (s_iret retI))
  (s_ldA 0 (s_ldI 1 (s_call (FW_m_allOf c_m_allOf) 2 (s_goto (s_iret retI))))))))))
set_option maxRecDepth 20000 in
theorem e_m_all (c_m_lies : Sg → Int32 → Int32 → Int32 → Option (Sg × Int32)) (c_m_allOf : Sg → Int32 → Option (Sg × Int32)) (s : Sg) (l1 : Int32) : m_all_G c_m_lies c_m_allOf s l1 = t_m_all c_m_lies c_m_allOf [some (.inr (.inr (some (10, 0)))), some (.inl l1)] [] s := rfl
noncomputable def m_settingLines_G (c_m_laysSetting : Sg → Option Sg) (s : Sg) : Option (Sg × Int32) :=
  (c_m_laysSetting s).bind fun s1 => (
  some (s1, (rI s1 10 0 43)))
noncomputable def m_settingLines : Sg → Option (Sg × Int32) := m_settingLines_G m_laysSetting
noncomputable def t_m_settingLines (c_m_laysSetting : Sg → Option Sg) : Bk (Sg × Int32) := (s_ldA 0 (s_call (FW_m_laysSetting c_m_laysSetting) 1 (s_ldA 0 (s_getI 10 43 (s_iret retI)))))
set_option maxRecDepth 20000 in
theorem e_m_settingLines (c_m_laysSetting : Sg → Option Sg) (s : Sg) : m_settingLines_G c_m_laysSetting s = t_m_settingLines c_m_laysSetting [some (.inr (.inr (some (10, 0))))] [] s := rfl
noncomputable def m_keeps_b54_G (K54 : Sg → Int32 → Int32 → Int32 → Option Sg) (s : Sg) (l1 : Int32) (l2 : Int32) (l3 : Int32) : Option Sg :=
  gif ((l3 : Int32) < 15) (
    gd (inb l3 5665) (
    gd (inb ((l2 * (rI s 10 0 46)) + l3) 256) (
    let s1 := wI s 59 0 (ix ((l2 * (rI s 10 0 46)) + l3)) (rI s 43 0 (ix l3))
    K54 s1 l1 l2 (l3 + 1))))
  (
    gd (inb ((l2 * (rI s 10 0 46)) + 15) 256) (
    let s2 := wI s 59 0 (ix ((l2 * (rI s 10 0 46)) + 15)) l1
    let s3 := wI s2 10 0 46 ((rI s2 10 0 46) + 1)
    some s3))
noncomputable def m_keeps_b54 : Nat → Sg → Int32 → Int32 → Int32 → Option Sg
  | 0 => fun _ _ _ _ => none
  | n + 1 => m_keeps_b54_G (m_keeps_b54 n)
noncomputable def t_m_keeps_b54 (K54 : Sg → Int32 → Int32 → Int32 → Option Sg) : Bk Sg := (s_ldI 3 (s_ic 15 (s_clt
  (s_ldA 0 (s_getRc 10 44 59 0 (s_ldI 2 (s_ldA 0 (s_getI 10 46 (s_bin (fun x y => x * y) (s_ldI 3 (s_bin (fun x y => x + y) (s_ldA 0 (s_getRc 10 2 43 0 (s_ldI 3 (s_iald 43 5665 (s_iast 59 256 (s_inc 3 1 (s_goto (p_C 0 10 0 <| p_I 1 fun a1 => p_I 2 fun a2 => p_I 3 fun a3 => p_E fun s => K54 s a1 a2 a3))))))))))))))))
  (s_ldA 0 (s_getRc 10 44 59 0 (s_ldI 2 (s_ldA 0 (s_getI 10 46 (s_bin (fun x y => x * y) (s_ic 15 (s_bin (fun x y => x + y) (s_ldI 1 (s_iast 59 256 (s_ldA 0 (s_dup (s_getI 10 46 (s_ic 1 (s_bin (fun x y => x + y) (s_putI 10 46 (s_vret retV))))))))))))))))))))
set_option maxRecDepth 20000 in
theorem e_m_keeps_b54 (K54 : Sg → Int32 → Int32 → Int32 → Option Sg) (s : Sg) (l1 : Int32) (l2 : Int32) (l3 : Int32) : m_keeps_b54_G K54 s l1 l2 l3 = t_m_keeps_b54 K54 [some (.inr (.inr (some (10, 0)))), some (.inl l1), some (.inl l2), some (.inl l3)] [] s := rfl
noncomputable def m_keeps_b14_G (K14 : Sg → Int32 → Int32 → Int32 → Option Sg) (K54 : Sg → Int32 → Int32 → Int32 → Option Sg) (s : Sg) (l1 : Int32) (l2 : Int32) (l3 : Int32) : Option Sg :=
  gif ((l3 : Int32) < (15 * l2)) (
    gd (inb (l3 + l2) 256) (
    gd (inb l3 256) (
    let s1 := wI s 59 0 (ix l3) (rI s 59 0 (ix (l3 + l2)))
    K14 s1 l1 l2 (l3 + 1))))
  (
    let s2 := wI s 10 0 46 ((rI s 10 0 46) - 1)
    K54 s2 l1 l2 0)
noncomputable def m_keeps_b14 : Nat → Sg → Int32 → Int32 → Int32 → Option Sg
  | 0 => fun _ _ _ _ => none
  | n + 1 => m_keeps_b14_G (m_keeps_b14 n) (m_keeps_b54 FU)
noncomputable def t_m_keeps_b14 (K14 : Sg → Int32 → Int32 → Int32 → Option Sg) (K54 : Sg → Int32 → Int32 → Int32 → Option Sg) : Bk Sg := (s_ldI 3 (s_ic 15 (s_ldI 2 (s_bin (fun x y => x * y) (s_clt
  (s_ldA 0 (s_getRc 10 44 59 0 (s_ldI 3 (s_ldA 0 (s_getRc 10 44 59 0 (s_ldI 3 (s_ldI 2 (s_bin (fun x y => x + y) (s_iald 59 256 (s_iast 59 256 (s_inc 3 1 (s_goto (p_C 0 10 0 <| p_I 1 fun a1 => p_I 2 fun a2 => p_I 3 fun a3 => p_E fun s => K14 s a1 a2 a3)))))))))))))
  (s_ldA 0 (s_dup (s_getI 10 46 (s_ic 1 (s_bin (fun x y => x - y) (s_putI 10 46 (s_ic 0 (s_stI 3 (p_C 0 10 0 <| p_I 1 fun a1 => p_I 2 fun a2 => p_I 3 fun a3 => p_E fun s => K54 s a1 a2 a3))))))))))))))
set_option maxRecDepth 20000 in
theorem e_m_keeps_b14 (K14 : Sg → Int32 → Int32 → Int32 → Option Sg) (K54 : Sg → Int32 → Int32 → Int32 → Option Sg) (s : Sg) (l1 : Int32) (l2 : Int32) (l3 : Int32) : m_keeps_b14_G K14 K54 s l1 l2 l3 = t_m_keeps_b14 K14 K54 [some (.inr (.inr (some (10, 0)))), some (.inl l1), some (.inl l2), some (.inl l3)] [] s := rfl
noncomputable def m_keeps_G (K14 : Sg → Int32 → Int32 → Int32 → Option Sg) (K54 : Sg → Int32 → Int32 → Int32 → Option Sg) (s : Sg) (l1 : Int32) : Option Sg :=
  gif (((rI s 10 0 46) : Int32) = 16) (
    K14 s l1 16 0)
  (
    K54 s l1 16 0)
noncomputable def m_keeps : Sg → Int32 → Option Sg := m_keeps_G (m_keeps_b14 FU) (m_keeps_b54 FU)
noncomputable def t_m_keeps (K14 : Sg → Int32 → Int32 → Int32 → Option Sg) (K54 : Sg → Int32 → Int32 → Int32 → Option Sg) : Bk Sg := (s_ic 16 (s_stI 2 (s_ldA 0 (s_getI 10 46 (s_ic 16 (s_ceq
  (s_ic 0 (s_stI 3 (p_C 0 10 0 <| p_I 1 fun a1 => p_I 2 fun a2 => p_I 3 fun a3 => p_E fun s => K14 s a1 a2 a3)))
  (s_ic 0 (s_stI 3 (p_C 0 10 0 <| p_I 1 fun a1 => p_I 2 fun a2 => p_I 3 fun a3 => p_E fun s => K54 s a1 a2 a3)))))))))
set_option maxRecDepth 20000 in
theorem e_m_keeps (K14 : Sg → Int32 → Int32 → Int32 → Option Sg) (K54 : Sg → Int32 → Int32 → Int32 → Option Sg) (s : Sg) (l1 : Int32) : m_keeps_G K14 K54 s l1 = t_m_keeps K14 K54 [some (.inr (.inr (some (10, 0)))), some (.inl l1), none, none] [] s := rfl
noncomputable def m_undo_b34_G (K34 : Sg → Int32 → Int32 → Option (Sg × Int32)) (c_m_good : Sg → Int32 → Option (Sg × Int32)) (s : Sg) (l1 : Int32) (l2 : Int32) : Option (Sg × Int32) :=
  gif ((l2 : Int32) < 15) (
    gd (inb (l1 + l2) 256) (
    gd (inb l2 5665) (
    let s1 := wI s 43 0 (ix l2) (rI s 59 0 (ix (l1 + l2)))
    K34 s1 l1 (l2 + 1))))
  (
    gd (inb (l1 + 15) 256) (
    (c_m_good s (rI s 59 0 (ix (l1 + 15)))).bind fun q2 => (
    some (q2.1, q2.2))))
noncomputable def m_undo_b34 : Nat → Sg → Int32 → Int32 → Option (Sg × Int32)
  | 0 => fun _ _ _ => none
  | n + 1 => m_undo_b34_G (m_undo_b34 n) m_good
noncomputable def t_m_undo_b34 (K34 : Sg → Int32 → Int32 → Option (Sg × Int32)) (c_m_good : Sg → Int32 → Option (Sg × Int32)) : Bk (Sg × Int32) := (s_ldI 2 (s_ic 15 (s_clt
  (s_ldA 0 (s_getRc 10 2 43 0 (s_ldI 2 (s_ldA 0 (s_getRc 10 44 59 0 (s_ldI 1 (s_ldI 2 (s_bin (fun x y => x + y) (s_iald 59 256 (s_iast 43 5665 (s_inc 2 1 (s_goto (p_C 0 10 0 <| p_I 1 fun a1 => p_I 2 fun a2 => p_E fun s => K34 s a1 a2)))))))))))))
  (s_ldA 0 (s_ldA 0 (s_getRc 10 44 59 0 (s_ldI 1 (s_ic 15 (s_bin (fun x y => x + y) (s_iald 59 256 (s_call (FW_m_good c_m_good) 2 (s_iret retI))))))))))))
set_option maxRecDepth 20000 in
theorem e_m_undo_b34 (K34 : Sg → Int32 → Int32 → Option (Sg × Int32)) (c_m_good : Sg → Int32 → Option (Sg × Int32)) (s : Sg) (l1 : Int32) (l2 : Int32) : m_undo_b34_G K34 c_m_good s l1 l2 = t_m_undo_b34 K34 c_m_good [some (.inr (.inr (some (10, 0)))), some (.inl l1), some (.inl l2)] [] s := rfl
noncomputable def m_undo_G (K34 : Sg → Int32 → Int32 → Option (Sg × Int32)) (c_m_refuses : Sg → Int32 → Option (Sg × Int32)) (s : Sg) : Option (Sg × Int32) :=
  gif (((rI s 10 0 46) : Int32) = 0) (
    (c_m_refuses s (-3)).bind fun q1 => (
    some (q1.1, q1.2)))
  (
    let s2 := wI s 10 0 46 ((rI s 10 0 46) - 1)
    K34 s2 (16 * (rI s2 10 0 46)) 0)
noncomputable def m_undo : Sg → Option (Sg × Int32) := m_undo_G (m_undo_b34 FU) m_refuses
noncomputable def t_m_undo (K34 : Sg → Int32 → Int32 → Option (Sg × Int32)) (c_m_refuses : Sg → Int32 → Option (Sg × Int32)) : Bk (Sg × Int32) := (s_ldA 0 (s_getI 10 46 (s_eq0
  (s_ldA 0 (s_ic (-3) (s_call (FW_m_refuses c_m_refuses) 2 (s_iret retI))))
  (s_ldA 0 (s_dup (s_getI 10 46 (s_ic 1 (s_bin (fun x y => x - y) (s_putI 10 46 (s_ic 16 (s_ldA 0 (s_getI 10 46 (s_bin (fun x y => x * y) (s_stI 1 (s_ic 0 (s_stI 2 (p_C 0 10 0 <| p_I 1 fun a1 => p_I 2 fun a2 => p_E fun s => K34 s a1 a2)))))))))))))))))
set_option maxRecDepth 20000 in
theorem e_m_undo (K34 : Sg → Int32 → Int32 → Option (Sg × Int32)) (c_m_refuses : Sg → Int32 → Option (Sg × Int32)) (s : Sg) : m_undo_G K34 c_m_refuses s = t_m_undo K34 c_m_refuses [some (.inr (.inr (some (10, 0)))), none, none] [] s := rfl
noncomputable def m_goodOr_G (c_m_refuses : Sg → Int32 → Option (Sg × Int32)) (c_m_good : Sg → Int32 → Option (Sg × Int32)) (s : Sg) (l1 : Int32) : Option (Sg × Int32) :=
  gif ((l1 : Int32) < 0) (
    (c_m_refuses s l1).bind fun q1 => (
    some (q1.1, q1.2)))
  (
    (c_m_good s l1).bind fun q2 => (
    some (q2.1, q2.2)))
noncomputable def m_goodOr : Sg → Int32 → Option (Sg × Int32) := m_goodOr_G m_refuses m_good
noncomputable def t_m_goodOr (c_m_refuses : Sg → Int32 → Option (Sg × Int32)) (c_m_good : Sg → Int32 → Option (Sg × Int32)) : Bk (Sg × Int32) := (s_ldI 1 (s_lt0
  (s_ldA 0 (s_ldI 1 (s_call (FW_m_refuses c_m_refuses) 2 (s_goto (s_iret retI)))))
  (s_ldA 0 (s_ldI 1 (s_call (FW_m_good c_m_good) 2 (s_iret retI))))))
set_option maxRecDepth 20000 in
theorem e_m_goodOr (c_m_refuses : Sg → Int32 → Option (Sg × Int32)) (c_m_good : Sg → Int32 → Option (Sg × Int32)) (s : Sg) (l1 : Int32) : m_goodOr_G c_m_refuses c_m_good s l1 = t_m_goodOr c_m_refuses c_m_good [some (.inr (.inr (some (10, 0)))), some (.inl l1)] [] s := rfl
noncomputable def m_stopsKept_G (c_m_isWord : Sg → Int32 → Option (Sg × Int32)) (c_m_isLast : Sg → Int32 → Option (Sg × Int32)) (c_m_keeps : Sg → Int32 → Option Sg) (c_m_endsAfter : Sg → Int32 → Option (Sg × Int32)) (s : Sg) (l1 : Int32) : Option (Sg × Int32) :=
  (c_m_isWord s l1).bind fun q1 => (
  gif ((q1.2 : Int32) = 0) (
    some (q1.1, (-2)))
  (
    (c_m_isLast q1.1 l1).bind fun q2 => (
    gif ((q2.2 : Int32) = 0) (
      (c_m_keeps q2.1 0).bind fun s3 => (
      gd (inb 0 5665) (
      gd (inb 0 5665) (
      let s4 := wI s3 43 0 (ix 0) ((rI s3 43 0 (ix 0)) ^^^ (1 <<< (l1 &&& 31)))
      (c_m_endsAfter s4 l1).bind fun q5 => (
      gif ((q5.2 : Int32) = 0) (
        some (q5.1, 0))
      (
        some (q5.1, 1)))))))
    (
      some (q2.1, (-3))))))
noncomputable def m_stopsKept : Sg → Int32 → Option (Sg × Int32) := m_stopsKept_G m_isWord m_isLast m_keeps m_endsAfter
noncomputable def t_m_stopsKept (c_m_isWord : Sg → Int32 → Option (Sg × Int32)) (c_m_isLast : Sg → Int32 → Option (Sg × Int32)) (c_m_keeps : Sg → Int32 → Option Sg) (c_m_endsAfter : Sg → Int32 → Option (Sg × Int32)) : Bk (Sg × Int32) := (s_ldA 0 (s_ldI 1 (s_call (FW_m_isWord c_m_isWord) 2 (s_eq0
  (s_ic (-2) (s_iret retI))
  (s_ldA 0 (s_ldI 1 (s_call (FW_m_isLast c_m_isLast) 2 (s_eq0
    (s_ldA 0 (s_ic 0 (s_call (FW_m_keeps c_m_keeps) 2 (s_ldA 0 (s_getRc 10 2 43 0 (s_ic 0 (s_dup2 (s_iald 43 5665 (s_ic 1 (s_ldI 1 (s_bin (fun x y => x <<< (y &&& 31)) (s_bin (fun x y => x ^^^ y) (s_iast 43 5665 (s_ldA 0 (s_ldI 1 (s_call (FW_m_endsAfter c_m_endsAfter) 2 (s_eq0
      (s_ic 0 (s_iret retI))
      (s_ic 1 (s_goto (s_iret retI))))))))))))))))))))
    (s_ic (-3) (s_iret retI))))))))))
set_option maxRecDepth 20000 in
theorem e_m_stopsKept (c_m_isWord : Sg → Int32 → Option (Sg × Int32)) (c_m_isLast : Sg → Int32 → Option (Sg × Int32)) (c_m_keeps : Sg → Int32 → Option Sg) (c_m_endsAfter : Sg → Int32 → Option (Sg × Int32)) (s : Sg) (l1 : Int32) : m_stopsKept_G c_m_isWord c_m_isLast c_m_keeps c_m_endsAfter s l1 = t_m_stopsKept c_m_isWord c_m_isLast c_m_keeps c_m_endsAfter [some (.inr (.inr (some (10, 0)))), some (.inl l1)] [] s := rfl
noncomputable def m_splitsKept_G (c_m_isWord : Sg → Int32 → Option (Sg × Int32)) (c_m_keeps : Sg → Int32 → Option Sg) (c_m_isSplit : Sg → Int32 → Option (Sg × Int32)) (s : Sg) (l1 : Int32) : Option (Sg × Int32) :=
  (c_m_isWord s l1).bind fun q1 => (
  gif ((q1.2 : Int32) = 0) (
    some (q1.1, (-2)))
  (
    gd (inb (15 + l1) 5665) (
    gif (((rI q1.1 43 0 (ix (15 + l1))) : Int32) = 0) (
      some (q1.1, (-3)))
    (
      (c_m_keeps q1.1 1).bind fun s2 => (
      gd (inb 1 5665) (
      gd (inb 1 5665) (
      let s3 := wI s2 43 0 (ix 1) ((rI s2 43 0 (ix 1)) ^^^ (1 <<< (l1 &&& 31)))
      (c_m_isSplit s3 l1).bind fun q4 => (
      gif ((q4.2 : Int32) = 0) (
        some (q4.1, 0))
      (
        some (q4.1, 1))))))))))
noncomputable def m_splitsKept : Sg → Int32 → Option (Sg × Int32) := m_splitsKept_G m_isWord m_keeps m_isSplit
noncomputable def t_m_splitsKept (c_m_isWord : Sg → Int32 → Option (Sg × Int32)) (c_m_keeps : Sg → Int32 → Option Sg) (c_m_isSplit : Sg → Int32 → Option (Sg × Int32)) : Bk (Sg × Int32) := (s_ldA 0 (s_ldI 1 (s_call (FW_m_isWord c_m_isWord) 2 (s_eq0
  (s_ic (-2) (s_iret retI))
  (s_ldA 0 (s_getRc 10 2 43 0 (s_ic 15 (s_ldI 1 (s_bin (fun x y => x + y) (s_iald 43 5665 (s_eq0
    (s_ic (-3) (s_iret retI))
    (s_ldA 0 (s_ic 1 (s_call (FW_m_keeps c_m_keeps) 2 (s_ldA 0 (s_getRc 10 2 43 0 (s_ic 1 (s_dup2 (s_iald 43 5665 (s_ic 1 (s_ldI 1 (s_bin (fun x y => x <<< (y &&& 31)) (s_bin (fun x y => x ^^^ y) (s_iast 43 5665 (s_ldA 0 (s_ldI 1 (s_call (FW_m_isSplit c_m_isSplit) 2 (s_eq0
      (s_ic 0 (s_iret retI))
      (s_ic 1 (s_goto (s_iret retI)))))))))))))))))))))))))))))))
set_option maxRecDepth 20000 in
theorem e_m_splitsKept (c_m_isWord : Sg → Int32 → Option (Sg × Int32)) (c_m_keeps : Sg → Int32 → Option Sg) (c_m_isSplit : Sg → Int32 → Option (Sg × Int32)) (s : Sg) (l1 : Int32) : m_splitsKept_G c_m_isWord c_m_keeps c_m_isSplit s l1 = t_m_splitsKept c_m_isWord c_m_keeps c_m_isSplit [some (.inr (.inr (some (10, 0)))), some (.inl l1)] [] s := rfl
noncomputable def m_canSwell_G (s : Sg) (l1 : Int32) (l2 : Int32) : Option (Sg × Int32) :=
  gd (inb (2 + l1) 5665) (
  gif ((l2 : Int32) = (rI s 43 0 (ix (2 + l1)))) (
    gd (isB 0) (some (s, 0)))
  (
    gd (inb (15 + l1) 5665) (
    gif (((rI s 43 0 (ix (15 + l1))) : Int32) < l2) (
      gd (isB 1) (some (s, 1)))
    (
      gd (isB 0) (some (s, 0))))))
noncomputable def m_canSwell : Sg → Int32 → Int32 → Option (Sg × Int32) := m_canSwell_G
noncomputable def t_m_canSwell : Bk (Sg × Int32) := (s_ldI 2 (s_ldA 0 (s_getRc 10 2 43 0 (s_ic 2 (s_ldI 1 (s_bin (fun x y => x + y) (s_iald 43 5665 (s_ceq
  (s_ic 0 (s_zret retI))
  (s_ldI 2 (s_ldA 0 (s_getRc 10 2 43 0 (s_ic 15 (s_ldI 1 (s_bin (fun x y => x + y) (s_iald 43 5665 (s_cgt
    (s_ic 1 (s_goto (s_zret retI)))
    (s_ic 0 (s_zret retI))))))))))))))))))
set_option maxRecDepth 20000 in
theorem e_m_canSwell (s : Sg) (l1 : Int32) (l2 : Int32) : m_canSwell_G s l1 l2 = t_m_canSwell [some (.inr (.inr (some (10, 0)))), some (.inl l1), some (.inl l2)] [] s := rfl
noncomputable def m_swellsKept_G (c_m_lies : Sg → Int32 → Int32 → Int32 → Option (Sg × Int32)) (c_m_isWord : Sg → Int32 → Option (Sg × Int32)) (c_m_canSwell : Sg → Int32 → Int32 → Option (Sg × Int32)) (c_m_keeps : Sg → Int32 → Option Sg) (s : Sg) (l1 : Int32) (l2 : Int32) : Option (Sg × Int32) :=
  (c_m_lies s l2 1 20).bind fun q1 => (
  gif ((q1.2 : Int32) = 0) (
    some (q1.1, (-1)))
  (
    (c_m_isWord q1.1 l1).bind fun q2 => (
    gif ((q2.2 : Int32) = 0) (
      some (q2.1, (-2)))
    (
      gd (inb (2 + l1) 5665) (
      (c_m_canSwell q2.1 l1 l2).bind fun q3 => (
      gif ((q3.2 : Int32) = 0) (
        some (q3.1, (-3)))
      (
        (c_m_keeps q3.1 2).bind fun s4 => (
        gd (inb (2 + l1) 5665) (
        let s5 := wI s4 43 0 (ix (2 + l1)) l2
        some (s5, (rI q2.1 43 0 (ix (2 + l1)))))))))))))
noncomputable def m_swellsKept : Sg → Int32 → Int32 → Option (Sg × Int32) := m_swellsKept_G m_lies m_isWord m_canSwell m_keeps
noncomputable def t_m_swellsKept (c_m_lies : Sg → Int32 → Int32 → Int32 → Option (Sg × Int32)) (c_m_isWord : Sg → Int32 → Option (Sg × Int32)) (c_m_canSwell : Sg → Int32 → Int32 → Option (Sg × Int32)) (c_m_keeps : Sg → Int32 → Option Sg) : Bk (Sg × Int32) := (s_ldI 2 (s_ic 1 (s_ic 20 (s_call (FW_m_lies c_m_lies) 3 (s_eq0
  (s_ic (-1) (s_iret retI))
  (s_ldA 0 (s_ldI 1 (s_call (FW_m_isWord c_m_isWord) 2 (s_eq0
    (s_ic (-2) (s_iret retI))
    (s_ldA 0 (s_getRc 10 2 43 0 (s_ic 2 (s_ldI 1 (s_bin (fun x y => x + y) (s_iald 43 5665 (s_stI 3 (s_ldA 0 (s_ldI 1 (s_ldI 2 (s_call (FW_m_canSwell c_m_canSwell) 3 (s_eq0
      (s_ic (-3) (s_iret retI))
      (s_ldA 0 (s_ic 2 (s_call (FW_m_keeps c_m_keeps) 2 (s_ldA 0 (s_getRc 10 2 43 0 (s_ic 2 (s_ldI 1 (s_bin (fun x y => x + y) (s_ldI 2 (s_iast 43 5665 (s_ldI 3 (s_iret retI)))))))))))))))))))))))))))))))))
set_option maxRecDepth 20000 in
theorem e_m_swellsKept (c_m_lies : Sg → Int32 → Int32 → Int32 → Option (Sg × Int32)) (c_m_isWord : Sg → Int32 → Option (Sg × Int32)) (c_m_canSwell : Sg → Int32 → Int32 → Option (Sg × Int32)) (c_m_keeps : Sg → Int32 → Option Sg) (s : Sg) (l1 : Int32) (l2 : Int32) : m_swellsKept_G c_m_lies c_m_isWord c_m_canSwell c_m_keeps s l1 l2 = t_m_swellsKept c_m_lies c_m_isWord c_m_canSwell c_m_keeps [some (.inr (.inr (some (10, 0)))), some (.inl l1), some (.inl l2), none] [] s := rfl
noncomputable def m_passesKept_G (c_m_allOf : Sg → Int32 → Option (Sg × Int32)) (c_m_keeps : Sg → Int32 → Option Sg) (s : Sg) : Option (Sg × Int32) :=
  gd (inb 14 5665) (
  gif (((rI s 43 0 (ix 14)) : Int32) = 999) (
    some (s, (-3)))
  (
    (c_m_allOf s 2).bind fun q1 => (
    (c_m_keeps q1.1 3).bind fun s2 => (
    gd (inb 14 5665) (
    gd (inb 14 5665) (
    let s3 := wI s2 43 0 (ix 14) ((rI s2 43 0 (ix 14)) + 1)
    some (s3, q1.2)))))))
noncomputable def m_passesKept : Sg → Option (Sg × Int32) := m_passesKept_G m_allOf m_keeps
noncomputable def t_m_passesKept (c_m_allOf : Sg → Int32 → Option (Sg × Int32)) (c_m_keeps : Sg → Int32 → Option Sg) : Bk (Sg × Int32) := (s_ldA 0 (s_getRc 10 2 43 0 (s_ic 14 (s_iald 43 5665 (s_ic 999 (s_ceq
  (s_ic (-3) (s_iret retI))
  (s_ldA 0 (s_ic 2 (s_call (FW_m_allOf c_m_allOf) 2 (s_stI 1 (s_ldA 0 (s_ic 3 (s_call (FW_m_keeps c_m_keeps) 2 (s_ldA 0 (s_getRc 10 2 43 0 (s_ic 14 (s_dup2 (s_iald 43 5665 (s_ic 1 (s_bin (fun x y => x + y) (s_iast 43 5665 (s_ldI 1 (s_iret retI)))))))))))))))))))))))
set_option maxRecDepth 20000 in
theorem e_m_passesKept (c_m_allOf : Sg → Int32 → Option (Sg × Int32)) (c_m_keeps : Sg → Int32 → Option Sg) (s : Sg) : m_passesKept_G c_m_allOf c_m_keeps s = t_m_passesKept c_m_allOf c_m_keeps [some (.inr (.inr (some (10, 0)))), none] [] s := rfl
noncomputable def m_stop_G (c_m_stopsKept : Sg → Int32 → Option (Sg × Int32)) (c_m_goodOr : Sg → Int32 → Option (Sg × Int32)) (s : Sg) (l1 : Int32) : Option (Sg × Int32) :=
  (c_m_stopsKept s l1).bind fun q1 => (
  (c_m_goodOr q1.1 q1.2).bind fun q2 => (
  some (q2.1, q2.2)))
noncomputable def m_stop : Sg → Int32 → Option (Sg × Int32) := m_stop_G m_stopsKept m_goodOr
noncomputable def t_m_stop (c_m_stopsKept : Sg → Int32 → Option (Sg × Int32)) (c_m_goodOr : Sg → Int32 → Option (Sg × Int32)) : Bk (Sg × Int32) := (s_ldA 0 (s_ldA 0 (s_ldI 1 (s_call (FW_m_stopsKept c_m_stopsKept) 2 (s_call (FW_m_goodOr c_m_goodOr) 2 (s_iret retI))))))
set_option maxRecDepth 20000 in
theorem e_m_stop (c_m_stopsKept : Sg → Int32 → Option (Sg × Int32)) (c_m_goodOr : Sg → Int32 → Option (Sg × Int32)) (s : Sg) (l1 : Int32) : m_stop_G c_m_stopsKept c_m_goodOr s l1 = t_m_stop c_m_stopsKept c_m_goodOr [some (.inr (.inr (some (10, 0)))), some (.inl l1)] [] s := rfl
noncomputable def m_split_G (c_m_splitsKept : Sg → Int32 → Option (Sg × Int32)) (c_m_goodOr : Sg → Int32 → Option (Sg × Int32)) (s : Sg) (l1 : Int32) : Option (Sg × Int32) :=
  (c_m_splitsKept s l1).bind fun q1 => (
  (c_m_goodOr q1.1 q1.2).bind fun q2 => (
  some (q2.1, q2.2)))
noncomputable def m_split : Sg → Int32 → Option (Sg × Int32) := m_split_G m_splitsKept m_goodOr
noncomputable def t_m_split (c_m_splitsKept : Sg → Int32 → Option (Sg × Int32)) (c_m_goodOr : Sg → Int32 → Option (Sg × Int32)) : Bk (Sg × Int32) := (s_ldA 0 (s_ldA 0 (s_ldI 1 (s_call (FW_m_splitsKept c_m_splitsKept) 2 (s_call (FW_m_goodOr c_m_goodOr) 2 (s_iret retI))))))
set_option maxRecDepth 20000 in
theorem e_m_split (c_m_splitsKept : Sg → Int32 → Option (Sg × Int32)) (c_m_goodOr : Sg → Int32 → Option (Sg × Int32)) (s : Sg) (l1 : Int32) : m_split_G c_m_splitsKept c_m_goodOr s l1 = t_m_split c_m_splitsKept c_m_goodOr [some (.inr (.inr (some (10, 0)))), some (.inl l1)] [] s := rfl
noncomputable def m_swell_G (c_m_swellsKept : Sg → Int32 → Int32 → Option (Sg × Int32)) (c_m_goodOr : Sg → Int32 → Option (Sg × Int32)) (s : Sg) (l1 : Int32) (l2 : Int32) : Option (Sg × Int32) :=
  (c_m_swellsKept s l1 l2).bind fun q1 => (
  (c_m_goodOr q1.1 q1.2).bind fun q2 => (
  some (q2.1, q2.2)))
noncomputable def m_swell : Sg → Int32 → Int32 → Option (Sg × Int32) := m_swell_G m_swellsKept m_goodOr
noncomputable def t_m_swell (c_m_swellsKept : Sg → Int32 → Int32 → Option (Sg × Int32)) (c_m_goodOr : Sg → Int32 → Option (Sg × Int32)) : Bk (Sg × Int32) := (s_ldA 0 (s_ldA 0 (s_ldI 1 (s_ldI 2 (s_call (FW_m_swellsKept c_m_swellsKept) 3 (s_call (FW_m_goodOr c_m_goodOr) 2 (s_iret retI)))))))
set_option maxRecDepth 20000 in
theorem e_m_swell (c_m_swellsKept : Sg → Int32 → Int32 → Option (Sg × Int32)) (c_m_goodOr : Sg → Int32 → Option (Sg × Int32)) (s : Sg) (l1 : Int32) (l2 : Int32) : m_swell_G c_m_swellsKept c_m_goodOr s l1 l2 = t_m_swell c_m_swellsKept c_m_goodOr [some (.inr (.inr (some (10, 0)))), some (.inl l1), some (.inl l2)] [] s := rfl
noncomputable def m_pass_G (c_m_passesKept : Sg → Option (Sg × Int32)) (c_m_goodOr : Sg → Int32 → Option (Sg × Int32)) (s : Sg) : Option (Sg × Int32) :=
  (c_m_passesKept s).bind fun q1 => (
  (c_m_goodOr q1.1 q1.2).bind fun q2 => (
  some (q2.1, q2.2)))
noncomputable def m_pass : Sg → Option (Sg × Int32) := m_pass_G m_passesKept m_goodOr
noncomputable def t_m_pass (c_m_passesKept : Sg → Option (Sg × Int32)) (c_m_goodOr : Sg → Int32 → Option (Sg × Int32)) : Bk (Sg × Int32) := (s_ldA 0 (s_ldA 0 (s_call (FW_m_passesKept c_m_passesKept) 1 (s_call (FW_m_goodOr c_m_goodOr) 2 (s_iret retI)))))
set_option maxRecDepth 20000 in
theorem e_m_pass (c_m_passesKept : Sg → Option (Sg × Int32)) (c_m_goodOr : Sg → Int32 → Option (Sg × Int32)) (s : Sg) : m_pass_G c_m_passesKept c_m_goodOr s = t_m_pass c_m_passesKept c_m_goodOr [some (.inr (.inr (some (10, 0))))] [] s := rfl
noncomputable def m_lineAt_G (s : Sg) (l0 : Int32) (l1 : Int32) (l2 : Int32) : Option (Sg × Int32) :=
  some (s, (((((l0 * 25) + l1) + 1) * 25) + l2))
noncomputable def m_lineAt : Sg → Int32 → Int32 → Int32 → Option (Sg × Int32) := m_lineAt_G
noncomputable def t_m_lineAt : Bk (Sg × Int32) := (s_ldI 0 (s_ic 25 (s_bin (fun x y => x * y) (s_ldI 1 (s_bin (fun x y => x + y) (s_ic 1 (s_bin (fun x y => x + y) (s_ic 25 (s_bin (fun x y => x * y) (s_ldI 2 (s_bin (fun x y => x + y) (s_iret retI))))))))))))
set_option maxRecDepth 20000 in
theorem e_m_lineAt (s : Sg) (l0 : Int32) (l1 : Int32) (l2 : Int32) : m_lineAt_G s l0 l1 l2 = t_m_lineAt [some (.inl l0), some (.inl l1), some (.inl l2)] [] s := rfl
noncomputable def m_stateAt_G (s : Sg) (l0 : Int32) (l1 : Int32) : Option (Sg × Int32) :=
  some (s, (((l0 * 25) + l1) + 1))
noncomputable def m_stateAt : Sg → Int32 → Int32 → Option (Sg × Int32) := m_stateAt_G
noncomputable def t_m_stateAt : Bk (Sg × Int32) := (s_ldI 0 (s_ic 25 (s_bin (fun x y => x * y) (s_ldI 1 (s_bin (fun x y => x + y) (s_ic 1 (s_bin (fun x y => x + y) (s_iret retI))))))))
set_option maxRecDepth 20000 in
theorem e_m_stateAt (s : Sg) (l0 : Int32) (l1 : Int32) : m_stateAt_G s l0 l1 = t_m_stateAt [some (.inl l0), some (.inl l1)] [] s := rfl
noncomputable def m_laysLine_G (c_m_lineAt : Sg → Int32 → Int32 → Int32 → Option (Sg × Int32)) (c_m_takesLine : Sg → Int32 → Int32 → Int32 → Int32 → Option Sg) (c_m_fitsNow : Sg → Option (Sg × Int32)) (c_m_costsNow : Sg → Option (Sg × Int32)) (c_m_paysNow : Sg → Option (Sg × Int32)) (s : Sg) (l1 : Int32) (l2 : Int32) (l3 : Int32) (l4 : Int32) (l5 : Int32) : Option Sg :=
  (c_m_lineAt s l1 l2 l3).bind fun q1 => (
  (c_m_takesLine q1.1 l1 l2 l3 l4).bind fun s2 => (
  (c_m_fitsNow s2).bind fun q3 => (
  gd (inb q1.2 15625) (
  let s4 := wI q3.1 61 0 (ix q1.2) (vp_nar .boolean q3.2)
  gd (inb q1.2 15625) (
  gif (((rI s4 61 0 (ix q1.2)) : Int32) = 0) (
    some s4)
  (
    gif ((l5 : Int32) = 0) (
      some s4)
    (
      (c_m_costsNow s4).bind fun q5 => (
      gd (inb q1.2 15625) (
      let s6 := wI q5.1 62 0 (ix q1.2) q5.2
      (c_m_paysNow s6).bind fun q7 => (
      gd (inb q1.2 15625) (
      let s8 := wI q7.1 63 0 (ix q1.2) q7.2
      some s8)))))))))))
noncomputable def m_laysLine : Sg → Int32 → Int32 → Int32 → Int32 → Int32 → Option Sg := m_laysLine_G m_lineAt m_takesLine m_fitsNow m_costsNow m_paysNow
noncomputable def t_m_laysLine (c_m_lineAt : Sg → Int32 → Int32 → Int32 → Option (Sg × Int32)) (c_m_takesLine : Sg → Int32 → Int32 → Int32 → Int32 → Option Sg) (c_m_fitsNow : Sg → Option (Sg × Int32)) (c_m_costsNow : Sg → Option (Sg × Int32)) (c_m_paysNow : Sg → Option (Sg × Int32)) : Bk Sg := (s_ldI 1 (s_ldI 2 (s_ldI 3 (s_call (FW_m_lineAt c_m_lineAt) 3 (s_stI 6 (s_ldA 0 (s_ldI 1 (s_ldI 2 (s_ldI 3 (s_ldI 4 (s_call (FW_m_takesLine c_m_takesLine) 5 (s_ldA 0 (s_getRc 10 47 61 0 (s_ldI 6 (s_ldA 0 (s_call (FW_m_fitsNow c_m_fitsNow) 1 (s_bast .boolean 61 15625 (s_ldA 0 (s_getRc 10 47 61 0 (s_ldI 6 (s_bald 61 15625 (s_eq0
  (s_vret retV)
  (s_ldI 5 (s_eq0
    (s_vret retV)
    (s_ldA 0 (s_getRc 10 48 62 0 (s_ldI 6 (s_ldA 0 (s_call (FW_m_costsNow c_m_costsNow) 1 (s_iast 62 15625 (s_ldA 0 (s_getRc 10 49 63 0 (s_ldI 6 (s_ldA 0 (s_call (FW_m_paysNow c_m_paysNow) 1 (s_iast 63 15625 (s_vret retV)))))))))))))))))))))))))))))))))))))
set_option maxRecDepth 20000 in
theorem e_m_laysLine (c_m_lineAt : Sg → Int32 → Int32 → Int32 → Option (Sg × Int32)) (c_m_takesLine : Sg → Int32 → Int32 → Int32 → Int32 → Option Sg) (c_m_fitsNow : Sg → Option (Sg × Int32)) (c_m_costsNow : Sg → Option (Sg × Int32)) (c_m_paysNow : Sg → Option (Sg × Int32)) (s : Sg) (l1 : Int32) (l2 : Int32) (l3 : Int32) (l4 : Int32) (l5 : Int32) : m_laysLine_G c_m_lineAt c_m_takesLine c_m_fitsNow c_m_costsNow c_m_paysNow s l1 l2 l3 l4 l5 = t_m_laysLine c_m_lineAt c_m_takesLine c_m_fitsNow c_m_costsNow c_m_paysNow [some (.inr (.inr (some (10, 0)))), some (.inl l1), some (.inl l2), some (.inl l3), some (.inl l4), some (.inl l5), none] [] s := rfl
noncomputable def m_laysLines_b43_G (K31 : Sg → Int32 → Int32 → Int32 → Int32 → Option Sg) (K43 : Sg → Int32 → Int32 → Int32 → Int32 → Int32 → Option Sg) (c_m_isPlace : Sg → Int32 → Option (Sg × Int32)) (c_m_laysLine : Sg → Int32 → Int32 → Int32 → Int32 → Int32 → Option Sg) (s : Sg) (l1 : Int32) (l2 : Int32) (l3 : Int32) (l4 : Int32) (l5 : Int32) : Option Sg :=
  gif (((l3 + 1) : Int32) < l5) (
    K31 s l1 l2 l3 (l4 + 1))
  (
    (c_m_isPlace s l4).bind fun q1 => (
    gif ((q1.2 : Int32) = 0) (
      K31 q1.1 l1 l2 l3 (l4 + 1))
    (
      (c_m_laysLine q1.1 l5 l3 l4 l1 l2).bind fun s2 => (
      K43 s2 l1 l2 l3 l4 (l5 + 1)))))
noncomputable def m_laysLines_b43 (K2 : Sg → Int32 → Int32 → Int32 → Option Sg) (K31 : Sg → Int32 → Int32 → Int32 → Int32 → Option Sg) : Nat → Sg → Int32 → Int32 → Int32 → Int32 → Int32 → Option Sg
  | 0 => fun _ _ _ _ _ _ => none
  | n + 1 => m_laysLines_b43_G K31 (m_laysLines_b43 K2 K31 n) m_isPlace m_laysLine
noncomputable def t_m_laysLines_b43 (K31 : Sg → Int32 → Int32 → Int32 → Int32 → Option Sg) (K43 : Sg → Int32 → Int32 → Int32 → Int32 → Int32 → Option Sg) (c_m_isPlace : Sg → Int32 → Option (Sg × Int32)) (c_m_laysLine : Sg → Int32 → Int32 → Int32 → Int32 → Int32 → Option Sg) : Bk Sg := (s_ldI 5 (s_ldI 3 (s_ic 1 (s_bin (fun x y => x + y) (s_cgt
  (s_inc 4 1 (s_goto (p_C 0 10 0 <| p_I 1 fun a1 => p_I 2 fun a2 => p_I 3 fun a3 => p_I 4 fun a4 => p_E fun s => K31 s a1 a2 a3 a4)))
  (s_ldA 0 (s_ldI 4 (s_call (FW_m_isPlace c_m_isPlace) 2 (s_eq0
    (s_inc 4 1 (s_goto (p_C 0 10 0 <| p_I 1 fun a1 => p_I 2 fun a2 => p_I 3 fun a3 => p_I 4 fun a4 => p_E fun s => K31 s a1 a2 a3 a4)))
    (s_ldA 0 (s_ldI 5 (s_ldI 3 (s_ldI 4 (s_ldI 1 (s_ldI 2 (s_call (FW_m_laysLine c_m_laysLine) 6 (s_inc 5 1 (s_goto (p_C 0 10 0 <| p_I 1 fun a1 => p_I 2 fun a2 => p_I 3 fun a3 => p_I 4 fun a4 => p_I 5 fun a5 => p_E fun s => K43 s a1 a2 a3 a4 a5)))))))))))))))))))
set_option maxRecDepth 20000 in
theorem e_m_laysLines_b43 (K31 : Sg → Int32 → Int32 → Int32 → Int32 → Option Sg) (K43 : Sg → Int32 → Int32 → Int32 → Int32 → Int32 → Option Sg) (c_m_isPlace : Sg → Int32 → Option (Sg × Int32)) (c_m_laysLine : Sg → Int32 → Int32 → Int32 → Int32 → Int32 → Option Sg) (s : Sg) (l1 : Int32) (l2 : Int32) (l3 : Int32) (l4 : Int32) (l5 : Int32) : m_laysLines_b43_G K31 K43 c_m_isPlace c_m_laysLine s l1 l2 l3 l4 l5 = t_m_laysLines_b43 K31 K43 c_m_isPlace c_m_laysLine [some (.inr (.inr (some (10, 0)))), some (.inl l1), some (.inl l2), some (.inl l3), some (.inl l4), some (.inl l5)] [] s := rfl
noncomputable def m_laysLines_b31_G (K2 : Sg → Int32 → Int32 → Int32 → Option Sg) (K43 : Sg → Int32 → Int32 → Int32 → Int32 → Int32 → Option Sg) (c_m_lastPlace : Sg → Option (Sg × Int32)) (s : Sg) (l1 : Int32) (l2 : Int32) (l3 : Int32) (l4 : Int32) : Option Sg :=
  (c_m_lastPlace s).bind fun q1 => (
  gif ((q1.2 : Int32) < l4) (
    K2 q1.1 l1 l2 (l3 + 1))
  (
    K43 q1.1 l1 l2 l3 l4 0))
noncomputable def m_laysLines_b31 (K2 : Sg → Int32 → Int32 → Int32 → Option Sg) : Nat → Sg → Int32 → Int32 → Int32 → Int32 → Option Sg
  | 0 => fun _ _ _ _ _ => none
  | n + 1 => m_laysLines_b31_G K2 (m_laysLines_b43 K2 (m_laysLines_b31 K2 n) FU) m_lastPlace
noncomputable def t_m_laysLines_b31 (K2 : Sg → Int32 → Int32 → Int32 → Option Sg) (K43 : Sg → Int32 → Int32 → Int32 → Int32 → Int32 → Option Sg) (c_m_lastPlace : Sg → Option (Sg × Int32)) : Bk Sg := (s_ldI 4 (s_ldA 0 (s_call (FW_m_lastPlace c_m_lastPlace) 1 (s_cgt
  (s_inc 3 1 (s_goto (p_C 0 10 0 <| p_I 1 fun a1 => p_I 2 fun a2 => p_I 3 fun a3 => p_E fun s => K2 s a1 a2 a3)))
  (s_ic 0 (s_stI 5 (p_C 0 10 0 <| p_I 1 fun a1 => p_I 2 fun a2 => p_I 3 fun a3 => p_I 4 fun a4 => p_I 5 fun a5 => p_E fun s => K43 s a1 a2 a3 a4 a5)))))))
set_option maxRecDepth 20000 in
theorem e_m_laysLines_b31 (K2 : Sg → Int32 → Int32 → Int32 → Option Sg) (K43 : Sg → Int32 → Int32 → Int32 → Int32 → Int32 → Option Sg) (c_m_lastPlace : Sg → Option (Sg × Int32)) (s : Sg) (l1 : Int32) (l2 : Int32) (l3 : Int32) (l4 : Int32) : m_laysLines_b31_G K2 K43 c_m_lastPlace s l1 l2 l3 l4 = t_m_laysLines_b31 K2 K43 c_m_lastPlace [some (.inr (.inr (some (10, 0)))), some (.inl l1), some (.inl l2), some (.inl l3), some (.inl l4), none] [] s := rfl
noncomputable def m_laysLines_b2_G (K2 : Sg → Int32 → Int32 → Int32 → Option Sg) (K31 : Sg → Int32 → Int32 → Int32 → Int32 → Option Sg) (c_m_lastPlace : Sg → Option (Sg × Int32)) (c_m_isPlace : Sg → Int32 → Option (Sg × Int32)) (s : Sg) (l1 : Int32) (l2 : Int32) (l3 : Int32) : Option Sg :=
  (c_m_lastPlace s).bind fun q1 => (
  gif ((l3 : Int32) < q1.2) (
    gif ((l3 : Int32) = (-1)) (
      K31 q1.1 l1 l2 l3 (l3 + 1))
    (
      (c_m_isPlace q1.1 l3).bind fun q2 => (
      gif ((q2.2 : Int32) = 0) (
        K2 q2.1 l1 l2 (l3 + 1))
      (
        K31 q2.1 l1 l2 l3 (l3 + 1)))))
  (
    some q1.1))
noncomputable def m_laysLines_b2 : Nat → Sg → Int32 → Int32 → Int32 → Option Sg
  | 0 => fun _ _ _ _ => none
  | n + 1 => m_laysLines_b2_G (m_laysLines_b2 n) (m_laysLines_b31 (m_laysLines_b2 n) FU) m_lastPlace m_isPlace
noncomputable def t_m_laysLines_b2 (K2 : Sg → Int32 → Int32 → Int32 → Option Sg) (K31 : Sg → Int32 → Int32 → Int32 → Int32 → Option Sg) (c_m_lastPlace : Sg → Option (Sg × Int32)) (c_m_isPlace : Sg → Int32 → Option (Sg × Int32)) : Bk Sg := (s_ldI 3 (s_ldA 0 (s_call (FW_m_lastPlace c_m_lastPlace) 1 (s_clt
  (s_ldI 3 (s_ic (-1) (s_ceq
    (s_ldI 3 (s_ic 1 (s_bin (fun x y => x + y) (s_stI 4 (p_C 0 10 0 <| p_I 1 fun a1 => p_I 2 fun a2 => p_I 3 fun a3 => p_I 4 fun a4 => p_E fun s => K31 s a1 a2 a3 a4)))))
    (s_ldA 0 (s_ldI 3 (s_call (FW_m_isPlace c_m_isPlace) 2 (s_eq0
      (s_goto (s_inc 3 1 (s_goto (p_C 0 10 0 <| p_I 1 fun a1 => p_I 2 fun a2 => p_I 3 fun a3 => p_E fun s => K2 s a1 a2 a3))))
      (s_ldI 3 (s_ic 1 (s_bin (fun x y => x + y) (s_stI 4 (p_C 0 10 0 <| p_I 1 fun a1 => p_I 2 fun a2 => p_I 3 fun a3 => p_I 4 fun a4 => p_E fun s => K31 s a1 a2 a3 a4))))))))))))
  (s_vret retV)))))
set_option maxRecDepth 20000 in
theorem e_m_laysLines_b2 (K2 : Sg → Int32 → Int32 → Int32 → Option Sg) (K31 : Sg → Int32 → Int32 → Int32 → Int32 → Option Sg) (c_m_lastPlace : Sg → Option (Sg × Int32)) (c_m_isPlace : Sg → Int32 → Option (Sg × Int32)) (s : Sg) (l1 : Int32) (l2 : Int32) (l3 : Int32) : m_laysLines_b2_G K2 K31 c_m_lastPlace c_m_isPlace s l1 l2 l3 = t_m_laysLines_b2 K2 K31 c_m_lastPlace c_m_isPlace [some (.inr (.inr (some (10, 0)))), some (.inl l1), some (.inl l2), some (.inl l3), none, none] [] s := rfl
noncomputable def m_laysLines_G (K2 : Sg → Int32 → Int32 → Int32 → Option Sg) (s : Sg) (l1 : Int32) (l2 : Int32) : Option Sg :=
  K2 s l1 l2 (-1)
noncomputable def m_laysLines : Sg → Int32 → Int32 → Option Sg := m_laysLines_G (m_laysLines_b2 FU)
noncomputable def t_m_laysLines (K2 : Sg → Int32 → Int32 → Int32 → Option Sg) : Bk Sg := (s_ic (-1) (s_stI 3 (p_C 0 10 0 <| p_I 1 fun a1 => p_I 2 fun a2 => p_I 3 fun a3 => p_E fun s => K2 s a1 a2 a3)))
set_option maxRecDepth 20000 in
theorem e_m_laysLines (K2 : Sg → Int32 → Int32 → Int32 → Option Sg) (s : Sg) (l1 : Int32) (l2 : Int32) : m_laysLines_G K2 s l1 l2 = t_m_laysLines K2 [some (.inr (.inr (some (10, 0)))), some (.inl l1), some (.inl l2), none, none, none] [] s := rfl
noncomputable def m_canLine_G (c_m_isPlace : Sg → Int32 → Option (Sg × Int32)) (c_m_lineAt : Sg → Int32 → Int32 → Int32 → Option (Sg × Int32)) (s : Sg) (l1 : Int32) (l2 : Int32) (l3 : Int32) : Option (Sg × Int32) :=
  (c_m_isPlace s l3).bind fun q1 => (
  gif ((q1.2 : Int32) = 0) (
    gd (isB 0) (some (q1.1, 0)))
  (
    (c_m_lineAt q1.1 l1 l2 l3).bind fun q2 => (
    gd (inb q2.2 15625) (
    gif (((rI q2.1 61 0 (ix q2.2)) : Int32) = 0) (
      gd (isB 0) (some (q2.1, 0)))
    (
      gd (isB 1) (some (q2.1, 1)))))))
noncomputable def m_canLine : Sg → Int32 → Int32 → Int32 → Option (Sg × Int32) := m_canLine_G m_isPlace m_lineAt
noncomputable def t_m_canLine (c_m_isPlace : Sg → Int32 → Option (Sg × Int32)) (c_m_lineAt : Sg → Int32 → Int32 → Int32 → Option (Sg × Int32)) : Bk (Sg × Int32) := (s_ldA 0 (s_ldI 3 (s_call (FW_m_isPlace c_m_isPlace) 2 (s_eq0
  (s_ic 0 (s_zret retI))
  (s_ldA 0 (s_getRc 10 47 61 0 (s_ldI 1 (s_ldI 2 (s_ldI 3 (s_call (FW_m_lineAt c_m_lineAt) 3 (s_bald 61 15625 (s_eq0
    (s_ic 0 (s_zret retI))
    (s_ic 1 (s_goto (s_zret retI)))))))))))))))
set_option maxRecDepth 20000 in
theorem e_m_canLine (c_m_isPlace : Sg → Int32 → Option (Sg × Int32)) (c_m_lineAt : Sg → Int32 → Int32 → Int32 → Option (Sg × Int32)) (s : Sg) (l1 : Int32) (l2 : Int32) (l3 : Int32) : m_canLine_G c_m_isPlace c_m_lineAt s l1 l2 l3 = t_m_canLine c_m_isPlace c_m_lineAt [some (.inr (.inr (some (10, 0)))), some (.inl l1), some (.inl l2), some (.inl l3)] [] s := rfl
noncomputable def m_isStart_G (c_m_isPlace : Sg → Int32 → Option (Sg × Int32)) (s : Sg) (l1 : Int32) : Option (Sg × Int32) :=
  gif ((l1 : Int32) = (-1)) (
    gd (isB 1) (some (s, 1)))
  (
    (c_m_isPlace s l1).bind fun q1 => (
    gif ((q1.2 : Int32) = 0) (
      gd (isB 0) (some (q1.1, 0)))
    (
      gd (isB 1) (some (q1.1, 1)))))
noncomputable def m_isStart : Sg → Int32 → Option (Sg × Int32) := m_isStart_G m_isPlace
noncomputable def t_m_isStart (c_m_isPlace : Sg → Int32 → Option (Sg × Int32)) : Bk (Sg × Int32) := (s_ldI 1 (s_ic (-1) (s_ceq
  (s_ic 1 (s_goto (s_zret retI)))
  (s_ldA 0 (s_ldI 1 (s_call (FW_m_isPlace c_m_isPlace) 2 (s_eq0
    (s_ic 0 (s_zret retI))
    (s_ic 1 (s_goto (s_zret retI))))))))))
set_option maxRecDepth 20000 in
theorem e_m_isStart (c_m_isPlace : Sg → Int32 → Option (Sg × Int32)) (s : Sg) (l1 : Int32) : m_isStart_G c_m_isPlace s l1 = t_m_isStart c_m_isPlace [some (.inr (.inr (some (10, 0)))), some (.inl l1)] [] s := rfl
noncomputable def m_laysLeast_b40_G (K12 : Sg → Int32 → Int32 → Option Sg) (K40 : Sg → Int32 → Int32 → Int32 → Int32 → Option Sg) (c_m_lastPlace : Sg → Option (Sg × Int32)) (c_m_isStart : Sg → Int32 → Option (Sg × Int32)) (c_m_canLine : Sg → Int32 → Int32 → Int32 → Option (Sg × Int32)) (c_m_lineAt : Sg → Int32 → Int32 → Int32 → Option (Sg × Int32)) (c_m_stateAt : Sg → Int32 → Int32 → Option (Sg × Int32)) (c_m_lesser : Sg → Int32 → Int32 → Option (Sg × Int32)) (s : Sg) (l1 : Int32) (l2 : Int32) (l3 : Int32) (l4 : Int32) : Option Sg :=
  (c_m_lastPlace s).bind fun q1 => (
  gif ((q1.2 : Int32) < l4) (
    (c_m_stateAt q1.1 l2 l1).bind fun q2 => (
    gd (inb q2.2 625) (
    let s3 := wI q2.1 64 0 (ix q2.2) l3
    K12 s3 l1 (l2 + 1))))
  (
    (c_m_isStart q1.1 l1).bind fun q4 => (
    gif ((q4.2 : Int32) = 0) (
      (c_m_stateAt q4.1 l2 l1).bind fun q5 => (
      gd (inb q5.2 625) (
      let s6 := wI q5.1 64 0 (ix q5.2) l3
      K12 s6 l1 (l2 + 1))))
    (
      (c_m_canLine q4.1 l2 l1 l4).bind fun q7 => (
      gif ((q7.2 : Int32) = 0) (
        K40 q7.1 l1 l2 l3 (l4 + 1))
      (
        (c_m_lineAt q7.1 l2 l1 l4).bind fun q8 => (
        gd (inb q8.2 15625) (
        (c_m_stateAt q8.1 (l2 + 1) l4).bind fun q9 => (
        gd (inb q9.2 625) (
        (c_m_lesser q9.1 l3 ((rI q8.1 62 0 (ix q8.2)) + (rI q9.1 64 0 (ix q9.2)))).bind fun q10 => (
        K40 q10.1 l1 l2 q10.2 (l4 + 1))))))))))))
noncomputable def m_laysLeast_b40 (K5 : Sg → Int32 → Option Sg) (K12 : Sg → Int32 → Int32 → Option Sg) : Nat → Sg → Int32 → Int32 → Int32 → Int32 → Option Sg
  | 0 => fun _ _ _ _ _ => none
  | n + 1 => m_laysLeast_b40_G K12 (m_laysLeast_b40 K5 K12 n) m_lastPlace m_isStart m_canLine m_lineAt m_stateAt m_lesser
noncomputable def t_m_laysLeast_b40 (K12 : Sg → Int32 → Int32 → Option Sg) (K40 : Sg → Int32 → Int32 → Int32 → Int32 → Option Sg) (c_m_lastPlace : Sg → Option (Sg × Int32)) (c_m_isStart : Sg → Int32 → Option (Sg × Int32)) (c_m_canLine : Sg → Int32 → Int32 → Int32 → Option (Sg × Int32)) (c_m_lineAt : Sg → Int32 → Int32 → Int32 → Option (Sg × Int32)) (c_m_stateAt : Sg → Int32 → Int32 → Option (Sg × Int32)) (c_m_lesser : Sg → Int32 → Int32 → Option (Sg × Int32)) : Bk Sg := (s_ldI 4 (s_ldA 0 (s_call (FW_m_lastPlace c_m_lastPlace) 1 (s_cgt
  (s_ldA 0 (s_getRc 10 50 64 0 (s_ldI 2 (s_ldI 1 (s_call (FW_m_stateAt c_m_stateAt) 2 (s_ldI 3 (s_iast 64 625 (s_inc 2 1 (s_goto (p_C 0 10 0 <| p_I 1 fun a1 => p_I 2 fun a2 => p_E fun s => K12 s a1 a2))))))))))
  (s_ldA 0 (s_ldI 1 (s_call (FW_m_isStart c_m_isStart) 2 (s_eq0
    (s_ldA 0 (s_getRc 10 50 64 0 (s_ldI 2 (s_ldI 1 (s_call (FW_m_stateAt c_m_stateAt) 2 (s_ldI 3 (s_iast 64 625 (s_inc 2 1 (s_goto (p_C 0 10 0 <| p_I 1 fun a1 => p_I 2 fun a2 => p_E fun s => K12 s a1 a2))))))))))
    (s_ldA 0 (s_ldI 2 (s_ldI 1 (s_ldI 4 (s_call (FW_m_canLine c_m_canLine) 4 (s_eq0
      (s_inc 4 1 (s_goto (p_C 0 10 0 <| p_I 1 fun a1 => p_I 2 fun a2 => p_I 3 fun a3 => p_I 4 fun a4 => p_E fun s => K40 s a1 a2 a3 a4)))
      (s_ldI 3 (s_ldA 0 (s_getRc 10 48 62 0 (s_ldI 2 (s_ldI 1 (s_ldI 4 (s_call (FW_m_lineAt c_m_lineAt) 3 (s_iald 62 15625 (s_ldA 0 (s_getRc 10 50 64 0 (s_ldI 2 (s_ic 1 (s_bin (fun x y => x + y) (s_ldI 4 (s_call (FW_m_stateAt c_m_stateAt) 2 (s_iald 64 625 (s_bin (fun x y => x + y) (s_call (FW_m_lesser c_m_lesser) 2 (s_stI 3 (s_inc 4 1 (s_goto (p_C 0 10 0 <| p_I 1 fun a1 => p_I 2 fun a2 => p_I 3 fun a3 => p_I 4 fun a4 => p_E fun s => K40 s a1 a2 a3 a4))))))))))))))))))))))))))))))))))))
set_option maxRecDepth 20000 in
theorem e_m_laysLeast_b40 (K12 : Sg → Int32 → Int32 → Option Sg) (K40 : Sg → Int32 → Int32 → Int32 → Int32 → Option Sg) (c_m_lastPlace : Sg → Option (Sg × Int32)) (c_m_isStart : Sg → Int32 → Option (Sg × Int32)) (c_m_canLine : Sg → Int32 → Int32 → Int32 → Option (Sg × Int32)) (c_m_lineAt : Sg → Int32 → Int32 → Int32 → Option (Sg × Int32)) (c_m_stateAt : Sg → Int32 → Int32 → Option (Sg × Int32)) (c_m_lesser : Sg → Int32 → Int32 → Option (Sg × Int32)) (s : Sg) (l1 : Int32) (l2 : Int32) (l3 : Int32) (l4 : Int32) : m_laysLeast_b40_G K12 K40 c_m_lastPlace c_m_isStart c_m_canLine c_m_lineAt c_m_stateAt c_m_lesser s l1 l2 l3 l4 = t_m_laysLeast_b40 K12 K40 c_m_lastPlace c_m_isStart c_m_canLine c_m_lineAt c_m_stateAt c_m_lesser [some (.inr (.inr (some (10, 0)))), some (.inl l1), some (.inl l2), some (.inl l3), some (.inl l4)] [] s := rfl
noncomputable def m_laysLeast_b12_G (K5 : Sg → Int32 → Option Sg) (K40 : Sg → Int32 → Int32 → Int32 → Int32 → Option Sg) (c_m_lastPlace : Sg → Option (Sg × Int32)) (s : Sg) (l1 : Int32) (l2 : Int32) : Option Sg :=
  gif (((l1 + 1) : Int32) < l2) (
    K5 s (l1 + (-1)))
  (
    (c_m_lastPlace s).bind fun q1 => (
    gif ((l1 : Int32) = q1.2) (
      K40 q1.1 l1 l2 0 (l1 + 1))
    (
      K40 q1.1 l1 l2 100000000 (l1 + 1))))
noncomputable def m_laysLeast_b12 (K5 : Sg → Int32 → Option Sg) : Nat → Sg → Int32 → Int32 → Option Sg
  | 0 => fun _ _ _ => none
  | n + 1 => m_laysLeast_b12_G K5 (m_laysLeast_b40 K5 (m_laysLeast_b12 K5 n) FU) m_lastPlace
noncomputable def t_m_laysLeast_b12 (K5 : Sg → Int32 → Option Sg) (K40 : Sg → Int32 → Int32 → Int32 → Int32 → Option Sg) (c_m_lastPlace : Sg → Option (Sg × Int32)) : Bk Sg := (s_ldI 2 (s_ldI 1 (s_ic 1 (s_bin (fun x y => x + y) (s_cgt
  (s_inc 1 (-1) (s_goto (p_C 0 10 0 <| p_I 1 fun a1 => p_E fun s => K5 s a1)))
  (s_ldI 1 (s_ldA 0 (s_call (FW_m_lastPlace c_m_lastPlace) 1 (s_ceq
    (s_ic 0 (s_goto (s_stI 3 (s_ldI 1 (s_ic 1 (s_bin (fun x y => x + y) (s_stI 4 (p_C 0 10 0 <| p_I 1 fun a1 => p_I 2 fun a2 => p_I 3 fun a3 => p_I 4 fun a4 => p_E fun s => K40 s a1 a2 a3 a4))))))))
    (s_ic 100000000 (s_stI 3 (s_ldI 1 (s_ic 1 (s_bin (fun x y => x + y) (s_stI 4 (p_C 0 10 0 <| p_I 1 fun a1 => p_I 2 fun a2 => p_I 3 fun a3 => p_I 4 fun a4 => p_E fun s => K40 s a1 a2 a3 a4))))))))))))))))
set_option maxRecDepth 20000 in
theorem e_m_laysLeast_b12 (K5 : Sg → Int32 → Option Sg) (K40 : Sg → Int32 → Int32 → Int32 → Int32 → Option Sg) (c_m_lastPlace : Sg → Option (Sg × Int32)) (s : Sg) (l1 : Int32) (l2 : Int32) : m_laysLeast_b12_G K5 K40 c_m_lastPlace s l1 l2 = t_m_laysLeast_b12 K5 K40 c_m_lastPlace [some (.inr (.inr (some (10, 0)))), some (.inl l1), some (.inl l2), none, none] [] s := rfl
noncomputable def m_laysLeast_b5_G (K12 : Sg → Int32 → Int32 → Option Sg) (s : Sg) (l1 : Int32) : Option Sg :=
  gif ((l1 : Int32) < (-1)) (
    some s)
  (
    K12 s l1 0)
noncomputable def m_laysLeast_b5 : Nat → Sg → Int32 → Option Sg
  | 0 => fun _ _ => none
  | n + 1 => m_laysLeast_b5_G (m_laysLeast_b12 (m_laysLeast_b5 n) FU)
noncomputable def t_m_laysLeast_b5 (K12 : Sg → Int32 → Int32 → Option Sg) : Bk Sg := (s_ldI 1 (s_ic (-1) (s_clt
  (s_vret retV)
  (s_ic 0 (s_stI 2 (p_C 0 10 0 <| p_I 1 fun a1 => p_I 2 fun a2 => p_E fun s => K12 s a1 a2))))))
set_option maxRecDepth 20000 in
theorem e_m_laysLeast_b5 (K12 : Sg → Int32 → Int32 → Option Sg) (s : Sg) (l1 : Int32) : m_laysLeast_b5_G K12 s l1 = t_m_laysLeast_b5 K12 [some (.inr (.inr (some (10, 0)))), some (.inl l1), none, none, none] [] s := rfl
noncomputable def m_laysLeast_G (K5 : Sg → Int32 → Option Sg) (c_m_lastPlace : Sg → Option (Sg × Int32)) (s : Sg) : Option Sg :=
  (c_m_lastPlace s).bind fun q1 => (
  K5 q1.1 q1.2)
noncomputable def m_laysLeast : Sg → Option Sg := m_laysLeast_G (m_laysLeast_b5 FU) m_lastPlace
noncomputable def t_m_laysLeast (K5 : Sg → Int32 → Option Sg) (c_m_lastPlace : Sg → Option (Sg × Int32)) : Bk Sg := (s_ldA 0 (s_call (FW_m_lastPlace c_m_lastPlace) 1 (s_stI 1 (p_C 0 10 0 <| p_I 1 fun a1 => p_E fun s => K5 s a1))))
set_option maxRecDepth 20000 in
theorem e_m_laysLeast (K5 : Sg → Int32 → Option Sg) (c_m_lastPlace : Sg → Option (Sg × Int32)) (s : Sg) : m_laysLeast_G K5 c_m_lastPlace s = t_m_laysLeast K5 c_m_lastPlace [some (.inr (.inr (some (10, 0)))), none, none, none, none] [] s := rfl
noncomputable def m_bestNow_G (c_m_laysLines : Sg → Int32 → Int32 → Option Sg) (c_m_laysLeast : Sg → Option Sg) (c_m_stateAt : Sg → Int32 → Int32 → Option (Sg × Int32)) (s : Sg) : Option (Sg × Int32) :=
  gd (inb 53 5665) (
  (c_m_laysLines s (rI s 43 0 (ix 53)) 1).bind fun s1 => (
  (c_m_laysLeast s1).bind fun s2 => (
  (c_m_stateAt s2 0 (-1)).bind fun q3 => (
  gd (inb q3.2 625) (
  gif (((rI q3.1 64 0 (ix q3.2)) : Int32) < 100000000) (
    some (q3.1, (rI q3.1 64 0 (ix q3.2))))
  (
    some (q3.1, (-1))))))))
noncomputable def m_bestNow : Sg → Option (Sg × Int32) := m_bestNow_G m_laysLines m_laysLeast m_stateAt
noncomputable def t_m_bestNow (c_m_laysLines : Sg → Int32 → Int32 → Option Sg) (c_m_laysLeast : Sg → Option Sg) (c_m_stateAt : Sg → Int32 → Int32 → Option (Sg × Int32)) : Bk (Sg × Int32) := (s_ldA 0 (s_ldA 0 (s_getRc 10 2 43 0 (s_ic 53 (s_iald 43 5665 (s_ic 1 (s_call (FW_m_laysLines c_m_laysLines) 3 (s_ldA 0 (s_call (FW_m_laysLeast c_m_laysLeast) 1 (s_ldA 0 (s_getRc 10 50 64 0 (s_ic 0 (s_ic (-1) (s_call (FW_m_stateAt c_m_stateAt) 2 (s_iald 64 625 (s_stI 1 (s_ldI 1 (s_ic 100000000 (s_clt
  (s_ldI 1 (s_iret retI))
  (s_ic (-1) (s_goto (s_iret retI))))))))))))))))))))))
set_option maxRecDepth 20000 in
theorem e_m_bestNow (c_m_laysLines : Sg → Int32 → Int32 → Option Sg) (c_m_laysLeast : Sg → Option Sg) (c_m_stateAt : Sg → Int32 → Int32 → Option (Sg × Int32)) (s : Sg) : m_bestNow_G c_m_laysLines c_m_laysLeast c_m_stateAt s = t_m_bestNow c_m_laysLines c_m_laysLeast c_m_stateAt [some (.inr (.inr (some (10, 0)))), none] [] s := rfl
noncomputable def m_best_b50_G (K29 : Sg → Int32 → Int32 → Int32 → Option (Sg × Int32)) (K50 : Sg → Int32 → Int32 → Int32 → Int32 → Option (Sg × Int32)) (c_m_canLine : Sg → Int32 → Int32 → Int32 → Option (Sg × Int32)) (c_m_lineAt : Sg → Int32 → Int32 → Int32 → Option (Sg × Int32)) (c_m_stateAt : Sg → Int32 → Int32 → Option (Sg × Int32)) (s : Sg) (l1 : Int32) (l3 : Int32) (l4 : Int32) (l5 : Int32) : Option (Sg × Int32) :=
  (c_m_canLine s l4 l3 l5).bind fun q1 => (
  gif ((q1.2 : Int32) = 0) (
    K50 q1.1 l1 l3 l4 (l5 + 1))
  (
    (c_m_lineAt q1.1 l4 l3 l5).bind fun q2 => (
    gd (inb q2.2 15625) (
    (c_m_stateAt q2.1 (l4 + 1) l5).bind fun q3 => (
    gd (inb q3.2 625) (
    (c_m_stateAt q3.1 l4 l3).bind fun q4 => (
    gd (inb q4.2 625) (
    gif ((((rI q2.1 62 0 (ix q2.2)) + (rI q3.1 64 0 (ix q3.2))) : Int32) = (rI q4.1 64 0 (ix q4.2))) (
      K29 q4.1 l1 l5 (l4 + 1))
    (
      K50 q4.1 l1 l3 l4 (l5 + 1))))))))))
noncomputable def m_best_b50 (K29 : Sg → Int32 → Int32 → Int32 → Option (Sg × Int32)) : Nat → Sg → Int32 → Int32 → Int32 → Int32 → Option (Sg × Int32)
  | 0 => fun _ _ _ _ _ => none
  | n + 1 => m_best_b50_G K29 (m_best_b50 K29 n) m_canLine m_lineAt m_stateAt
noncomputable def t_m_best_b50 (K29 : Sg → Int32 → Int32 → Int32 → Option (Sg × Int32)) (K50 : Sg → Int32 → Int32 → Int32 → Int32 → Option (Sg × Int32)) (c_m_canLine : Sg → Int32 → Int32 → Int32 → Option (Sg × Int32)) (c_m_lineAt : Sg → Int32 → Int32 → Int32 → Option (Sg × Int32)) (c_m_stateAt : Sg → Int32 → Int32 → Option (Sg × Int32)) : Bk (Sg × Int32) := (s_ldA 0 (s_ldI 4 (s_ldI 3 (s_ldI 5 (s_call (FW_m_canLine c_m_canLine) 4 (s_eq0
  (s_inc 5 1 (s_goto (p_C 0 10 0 <| p_I 1 fun a1 => p_I 3 fun a3 => p_I 4 fun a4 => p_I 5 fun a5 => p_E fun s => K50 s a1 a3 a4 a5)))
  (s_ldA 0 (s_getRc 10 48 62 0 (s_ldI 4 (s_ldI 3 (s_ldI 5 (s_call (FW_m_lineAt c_m_lineAt) 3 (s_iald 62 15625 (s_ldA 0 (s_getRc 10 50 64 0 (s_ldI 4 (s_ic 1 (s_bin (fun x y => x + y) (s_ldI 5 (s_call (FW_m_stateAt c_m_stateAt) 2 (s_iald 64 625 (s_bin (fun x y => x + y) (s_ldA 0 (s_getRc 10 50 64 0 (s_ldI 4 (s_ldI 3 (s_call (FW_m_stateAt c_m_stateAt) 2 (s_iald 64 625 (s_ceq
    (s_ldI 5 (s_stI 3 (s_inc 4 1 (s_goto (p_C 0 10 0 <| p_I 1 fun a1 => p_I 3 fun a3 => p_I 4 fun a4 => p_E fun s => K29 s a1 a3 a4)))))
    (s_inc 5 1 (s_goto (p_C 0 10 0 <| p_I 1 fun a1 => p_I 3 fun a3 => p_I 4 fun a4 => p_I 5 fun a5 => p_E fun s => K50 s a1 a3 a4 a5))))))))))))))))))))))))))))))))
set_option maxRecDepth 20000 in
theorem e_m_best_b50 (K29 : Sg → Int32 → Int32 → Int32 → Option (Sg × Int32)) (K50 : Sg → Int32 → Int32 → Int32 → Int32 → Option (Sg × Int32)) (c_m_canLine : Sg → Int32 → Int32 → Int32 → Option (Sg × Int32)) (c_m_lineAt : Sg → Int32 → Int32 → Int32 → Option (Sg × Int32)) (c_m_stateAt : Sg → Int32 → Int32 → Option (Sg × Int32)) (s : Sg) (l1 : Int32) (l3 : Int32) (l4 : Int32) (l5 : Int32) : m_best_b50_G K29 K50 c_m_canLine c_m_lineAt c_m_stateAt s l1 l3 l4 l5 = t_m_best_b50 K29 K50 c_m_canLine c_m_lineAt c_m_stateAt [some (.inr (.inr (some (10, 0)))), some (.inl l1), none, some (.inl l3), some (.inl l4), some (.inl l5)] [] s := rfl
noncomputable def m_best_b29_G (K50 : Sg → Int32 → Int32 → Int32 → Int32 → Option (Sg × Int32)) (c_m_lastPlace : Sg → Option (Sg × Int32)) (s : Sg) (l1 : Int32) (l3 : Int32) (l4 : Int32) : Option (Sg × Int32) :=
  gif ((l1 : Int32) < l4) (
    some (s, l3))
  (
    (c_m_lastPlace s).bind fun q1 => (
    gif ((l3 : Int32) = q1.2) (
      some (q1.1, (-1)))
    (
      K50 q1.1 l1 l3 l4 (l3 + 1))))
noncomputable def m_best_b29 : Nat → Sg → Int32 → Int32 → Int32 → Option (Sg × Int32)
  | 0 => fun _ _ _ _ => none
  | n + 1 => m_best_b29_G (m_best_b50 (m_best_b29 n) FU) m_lastPlace
noncomputable def t_m_best_b29 (K50 : Sg → Int32 → Int32 → Int32 → Int32 → Option (Sg × Int32)) (c_m_lastPlace : Sg → Option (Sg × Int32)) : Bk (Sg × Int32) := (s_ldI 4 (s_ldI 1 (s_cgt
  (s_ldI 3 (s_iret retI))
  (s_ldI 3 (s_ldA 0 (s_call (FW_m_lastPlace c_m_lastPlace) 1 (s_ceq
    (s_ic (-1) (s_iret retI))
    (s_ldI 3 (s_ic 1 (s_bin (fun x y => x + y) (s_stI 5 (p_C 0 10 0 <| p_I 1 fun a1 => p_I 3 fun a3 => p_I 4 fun a4 => p_I 5 fun a5 => p_E fun s => K50 s a1 a3 a4 a5))))))))))))
set_option maxRecDepth 20000 in
theorem e_m_best_b29 (K50 : Sg → Int32 → Int32 → Int32 → Int32 → Option (Sg × Int32)) (c_m_lastPlace : Sg → Option (Sg × Int32)) (s : Sg) (l1 : Int32) (l3 : Int32) (l4 : Int32) : m_best_b29_G K50 c_m_lastPlace s l1 l3 l4 = t_m_best_b29 K50 c_m_lastPlace [some (.inr (.inr (some (10, 0)))), some (.inl l1), none, some (.inl l3), some (.inl l4), none] [] s := rfl
noncomputable def m_best_G (K29 : Sg → Int32 → Int32 → Int32 → Option (Sg × Int32)) (c_m_bestNow : Sg → Option (Sg × Int32)) (s : Sg) (l1 : Int32) : Option (Sg × Int32) :=
  gif ((l1 : Int32) < (-1)) (
    some (s, (-1)))
  (
    (c_m_bestNow s).bind fun q1 => (
    gif ((q1.2 : Int32) = (-1)) (
      some (q1.1, q1.2))
    (
      gif ((l1 : Int32) = (-1)) (
        some (q1.1, q1.2))
      (
        K29 q1.1 l1 (-1) 0))))
noncomputable def m_best : Sg → Int32 → Option (Sg × Int32) := m_best_G (m_best_b29 FU) m_bestNow
noncomputable def t_m_best (K29 : Sg → Int32 → Int32 → Int32 → Option (Sg × Int32)) (c_m_bestNow : Sg → Option (Sg × Int32)) : Bk (Sg × Int32) := (s_ldI 1 (s_ic (-1) (s_clt
  (s_ic (-1) (s_iret retI))
  (s_ldA 0 (s_call (FW_m_bestNow c_m_bestNow) 1 (s_stI 2 (s_ldI 2 (s_ic (-1) (s_ceq
    (s_ldI 2 (s_iret retI))
    (s_ldI 1 (s_ic (-1) (s_ceq
      (s_ldI 2 (s_iret retI))
      (s_ic (-1) (s_stI 3 (s_ic 0 (s_stI 4 (p_C 0 10 0 <| p_I 1 fun a1 => p_I 3 fun a3 => p_I 4 fun a4 => p_E fun s => K29 s a1 a3 a4)))))))))))))))))
set_option maxRecDepth 20000 in
theorem e_m_best (K29 : Sg → Int32 → Int32 → Int32 → Option (Sg × Int32)) (c_m_bestNow : Sg → Option (Sg × Int32)) (s : Sg) (l1 : Int32) : m_best_G K29 c_m_bestNow s l1 = t_m_best K29 c_m_bestNow [some (.inr (.inr (some (10, 0)))), some (.inl l1), none, none, none, none] [] s := rfl
noncomputable def m_takesSum_G (c_m_stateAt : Sg → Int32 → Int32 → Option (Sg × Int32)) (c_m_lineAt : Sg → Int32 → Int32 → Int32 → Option (Sg × Int32)) (c_m_greater : Sg → Int32 → Int32 → Option (Sg × Int32)) (c_m_lesser : Sg → Int32 → Int32 → Option (Sg × Int32)) (s : Sg) (l1 : Int32) (l2 : Int32) (l3 : Int32) (l4 : Int32) : Option Sg :=
  (c_m_stateAt s l1 l2).bind fun q1 => (
  gd (inb q1.2 625) (
  (c_m_stateAt q1.1 (l1 + 1) l3).bind fun q2 => (
  gif ((l4 : Int32) = 0) (
    gd (inb q2.2 625) (
    (c_m_lineAt q2.1 l1 l2 l3).bind fun q3 => (
    gd (inb q3.2 15625) (
    (c_m_lesser q3.1 (rI q2.1 64 0 (ix q2.2)) ((rI q1.1 64 0 (ix q1.2)) + (rI q3.1 62 0 (ix q3.2)))).bind fun q4 => (
    gd (inb q2.2 625) (
    let s5 := wI q4.1 64 0 (ix q2.2) q4.2
    some s5))))))
  (
    gd (inb q2.2 625) (
    (c_m_lineAt q2.1 l1 l2 l3).bind fun q6 => (
    gd (inb q6.2 15625) (
    (c_m_greater q6.1 (rI q2.1 64 0 (ix q2.2)) ((rI q1.1 64 0 (ix q1.2)) + (rI q6.1 63 0 (ix q6.2)))).bind fun q7 => (
    gd (inb q2.2 625) (
    let s8 := wI q7.1 64 0 (ix q2.2) q7.2
    some s8)))))))))
noncomputable def m_takesSum : Sg → Int32 → Int32 → Int32 → Int32 → Option Sg := m_takesSum_G m_stateAt m_lineAt m_greater m_lesser
noncomputable def t_m_takesSum (c_m_stateAt : Sg → Int32 → Int32 → Option (Sg × Int32)) (c_m_lineAt : Sg → Int32 → Int32 → Int32 → Option (Sg × Int32)) (c_m_greater : Sg → Int32 → Int32 → Option (Sg × Int32)) (c_m_lesser : Sg → Int32 → Int32 → Option (Sg × Int32)) : Bk Sg := (s_ldA 0 (s_getRc 10 50 64 0 (s_ldI 1 (s_ldI 2 (s_call (FW_m_stateAt c_m_stateAt) 2 (s_iald 64 625 (s_stI 5 (s_ldI 1 (s_ic 1 (s_bin (fun x y => x + y) (s_ldI 3 (s_call (FW_m_stateAt c_m_stateAt) 2 (s_stI 6 (s_ldI 4 (s_eq0
  (s_ldA 0 (s_getRc 10 50 64 0 (s_ldI 6 (s_ldA 0 (s_getRc 10 50 64 0 (s_ldI 6 (s_iald 64 625 (s_ldI 5 (s_ldA 0 (s_getRc 10 48 62 0 (s_ldI 1 (s_ldI 2 (s_ldI 3 (s_call (FW_m_lineAt c_m_lineAt) 3 (s_iald 62 15625 (s_bin (fun x y => x + y) (s_call (FW_m_lesser c_m_lesser) 2 (s_iast 64 625 (s_vret retV)))))))))))))))))))
  (s_ldA 0 (s_getRc 10 50 64 0 (s_ldI 6 (s_ldA 0 (s_getRc 10 50 64 0 (s_ldI 6 (s_iald 64 625 (s_ldI 5 (s_ldA 0 (s_getRc 10 49 63 0 (s_ldI 1 (s_ldI 2 (s_ldI 3 (s_call (FW_m_lineAt c_m_lineAt) 3 (s_iald 63 15625 (s_bin (fun x y => x + y) (s_call (FW_m_greater c_m_greater) 2 (s_iast 64 625 (s_goto (s_vret retV)))))))))))))))))))))))))))))))))))
set_option maxRecDepth 20000 in
theorem e_m_takesSum (c_m_stateAt : Sg → Int32 → Int32 → Option (Sg × Int32)) (c_m_lineAt : Sg → Int32 → Int32 → Int32 → Option (Sg × Int32)) (c_m_greater : Sg → Int32 → Int32 → Option (Sg × Int32)) (c_m_lesser : Sg → Int32 → Int32 → Option (Sg × Int32)) (s : Sg) (l1 : Int32) (l2 : Int32) (l3 : Int32) (l4 : Int32) : m_takesSum_G c_m_stateAt c_m_lineAt c_m_greater c_m_lesser s l1 l2 l3 l4 = t_m_takesSum c_m_stateAt c_m_lineAt c_m_greater c_m_lesser [some (.inr (.inr (some (10, 0)))), some (.inl l1), some (.inl l2), some (.inl l3), some (.inl l4), none, none] [] s := rfl
