noncomputable def x9_stop_G (c_x0_attempt : Sg → Int32 → Int32 → Int32 → Option (Sg × Int32)) (c_x9_refuse : Sg → Int32 → Option (Sg × Int32)) (c_x1_endsAfter : Sg → Nat → Int32 → Option (Sg × Int32)) (c_x9_answer : Sg → Int32 → Option (Sg × Int32)) (s : Sg) (l1 : Int32) : Option (Sg × Int32) :=
  (c_x0_attempt s 0 l1 0).bind fun q1 => (
  gif ((q1.2 : Int32) = 0) (
    (c_x1_endsAfter q1.1 0 l1).bind fun q2 => (
    gif ((q2.2 : Int32) = 0) (
      (c_x9_answer q2.1 0).bind fun q3 => (
      some (q3.1, q3.2)))
    (
      (c_x9_answer q2.1 1).bind fun q4 => (
      some (q4.1, q4.2)))))
  (
    (c_x9_refuse q1.1 q1.2).bind fun q5 => (
    some (q5.1, q5.2))))
noncomputable def x9_stop : Sg → Int32 → Option (Sg × Int32) := x9_stop_G x0_attempt x9_refuse x1_endsAfter x9_answer
noncomputable def t_x9_stop (c_x0_attempt : Sg → Int32 → Int32 → Int32 → Option (Sg × Int32)) (c_x9_refuse : Sg → Int32 → Option (Sg × Int32)) (c_x1_endsAfter : Sg → Nat → Int32 → Option (Sg × Int32)) (c_x9_answer : Sg → Int32 → Option (Sg × Int32)) : Bk (Sg × Int32) := (s_ldA 0 (s_getRc 9 0 0 0 (s_ic 0 (s_ldI 1 (s_ic 0 (s_call (FW_x0_attempt c_x0_attempt) 4 (s_stI 2 (s_ldI 2 (s_eq0
  (s_ldA 0 (s_ldA 0 (s_getRc 9 1 1 0 (s_ldI 1 (s_call (FW_x1_endsAfter c_x1_endsAfter) 2 (s_eq0
    (s_ic 0 (s_call (FW_x9_answer c_x9_answer) 2 (s_iret retI)))
    (s_ic 1 (s_goto (s_call (FW_x9_answer c_x9_answer) 2 (s_iret retI))))))))))
  (s_ldA 0 (s_ldI 2 (s_call (FW_x9_refuse c_x9_refuse) 2 (s_goto (s_iret retI))))))))))))))
set_option maxRecDepth 20000 in
theorem e_x9_stop (c_x0_attempt : Sg → Int32 → Int32 → Int32 → Option (Sg × Int32)) (c_x9_refuse : Sg → Int32 → Option (Sg × Int32)) (c_x1_endsAfter : Sg → Nat → Int32 → Option (Sg × Int32)) (c_x9_answer : Sg → Int32 → Option (Sg × Int32)) (s : Sg) (l1 : Int32) : x9_stop_G c_x0_attempt c_x9_refuse c_x1_endsAfter c_x9_answer s l1 = t_x9_stop c_x0_attempt c_x9_refuse c_x1_endsAfter c_x9_answer [some (.inr (.inr (some (9, 0)))), some (.inl l1), none] [] s := rfl
noncomputable def x9_split_G (c_x0_attempt : Sg → Int32 → Int32 → Int32 → Option (Sg × Int32)) (c_x9_refuse : Sg → Int32 → Option (Sg × Int32)) (c_x1_isSplit : Sg → Nat → Int32 → Option (Sg × Int32)) (c_x9_answer : Sg → Int32 → Option (Sg × Int32)) (s : Sg) (l1 : Int32) : Option (Sg × Int32) :=
  (c_x0_attempt s 1 l1 0).bind fun q1 => (
  gif ((q1.2 : Int32) = 0) (
    (c_x1_isSplit q1.1 0 l1).bind fun q2 => (
    gif ((q2.2 : Int32) = 0) (
      (c_x9_answer q2.1 0).bind fun q3 => (
      some (q3.1, q3.2)))
    (
      (c_x9_answer q2.1 1).bind fun q4 => (
      some (q4.1, q4.2)))))
  (
    (c_x9_refuse q1.1 q1.2).bind fun q5 => (
    some (q5.1, q5.2))))
noncomputable def x9_split : Sg → Int32 → Option (Sg × Int32) := x9_split_G x0_attempt x9_refuse x1_isSplit x9_answer
noncomputable def t_x9_split (c_x0_attempt : Sg → Int32 → Int32 → Int32 → Option (Sg × Int32)) (c_x9_refuse : Sg → Int32 → Option (Sg × Int32)) (c_x1_isSplit : Sg → Nat → Int32 → Option (Sg × Int32)) (c_x9_answer : Sg → Int32 → Option (Sg × Int32)) : Bk (Sg × Int32) := (s_ldA 0 (s_getRc 9 0 0 0 (s_ic 1 (s_ldI 1 (s_ic 0 (s_call (FW_x0_attempt c_x0_attempt) 4 (s_stI 2 (s_ldI 2 (s_eq0
  (s_ldA 0 (s_ldA 0 (s_getRc 9 1 1 0 (s_ldI 1 (s_call (FW_x1_isSplit c_x1_isSplit) 2 (s_eq0
    (s_ic 0 (s_call (FW_x9_answer c_x9_answer) 2 (s_iret retI)))
    (s_ic 1 (s_goto (s_call (FW_x9_answer c_x9_answer) 2 (s_iret retI))))))))))
  (s_ldA 0 (s_ldI 2 (s_call (FW_x9_refuse c_x9_refuse) 2 (s_goto (s_iret retI))))))))))))))
set_option maxRecDepth 20000 in
theorem e_x9_split (c_x0_attempt : Sg → Int32 → Int32 → Int32 → Option (Sg × Int32)) (c_x9_refuse : Sg → Int32 → Option (Sg × Int32)) (c_x1_isSplit : Sg → Nat → Int32 → Option (Sg × Int32)) (c_x9_answer : Sg → Int32 → Option (Sg × Int32)) (s : Sg) (l1 : Int32) : x9_split_G c_x0_attempt c_x9_refuse c_x1_isSplit c_x9_answer s l1 = t_x9_split c_x0_attempt c_x9_refuse c_x1_isSplit c_x9_answer [some (.inr (.inr (some (9, 0)))), some (.inl l1), none] [] s := rfl
noncomputable def x9_swell_G (c_x1_wideOf : Sg → Nat → Int32 → Option (Sg × Int32)) (c_x0_attempt : Sg → Int32 → Int32 → Int32 → Option (Sg × Int32)) (c_x9_refuse : Sg → Int32 → Option (Sg × Int32)) (c_x9_answer : Sg → Int32 → Option (Sg × Int32)) (s : Sg) (l1 : Int32) (l2 : Int32) : Option (Sg × Int32) :=
  (c_x1_wideOf s 0 l1).bind fun q1 => (
  (c_x0_attempt q1.1 2 l1 l2).bind fun q2 => (
  gif ((q2.2 : Int32) = 0) (
    (c_x9_answer q2.1 q1.2).bind fun q3 => (
    some (q3.1, q3.2)))
  (
    (c_x9_refuse q2.1 q2.2).bind fun q4 => (
    some (q4.1, q4.2)))))
noncomputable def x9_swell : Sg → Int32 → Int32 → Option (Sg × Int32) := x9_swell_G x1_wideOf x0_attempt x9_refuse x9_answer
noncomputable def t_x9_swell (c_x1_wideOf : Sg → Nat → Int32 → Option (Sg × Int32)) (c_x0_attempt : Sg → Int32 → Int32 → Int32 → Option (Sg × Int32)) (c_x9_refuse : Sg → Int32 → Option (Sg × Int32)) (c_x9_answer : Sg → Int32 → Option (Sg × Int32)) : Bk (Sg × Int32) := (s_ldA 0 (s_getRc 9 1 1 0 (s_ldI 1 (s_call (FW_x1_wideOf c_x1_wideOf) 2 (s_stI 3 (s_ldA 0 (s_getRc 9 0 0 0 (s_ic 2 (s_ldI 1 (s_ldI 2 (s_call (FW_x0_attempt c_x0_attempt) 4 (s_stI 4 (s_ldI 4 (s_eq0
  (s_ldA 0 (s_ldI 3 (s_call (FW_x9_answer c_x9_answer) 2 (s_iret retI))))
  (s_ldA 0 (s_ldI 4 (s_call (FW_x9_refuse c_x9_refuse) 2 (s_goto (s_iret retI)))))))))))))))))))
set_option maxRecDepth 20000 in
theorem e_x9_swell (c_x1_wideOf : Sg → Nat → Int32 → Option (Sg × Int32)) (c_x0_attempt : Sg → Int32 → Int32 → Int32 → Option (Sg × Int32)) (c_x9_refuse : Sg → Int32 → Option (Sg × Int32)) (c_x9_answer : Sg → Int32 → Option (Sg × Int32)) (s : Sg) (l1 : Int32) (l2 : Int32) : x9_swell_G c_x1_wideOf c_x0_attempt c_x9_refuse c_x9_answer s l1 l2 = t_x9_swell c_x1_wideOf c_x0_attempt c_x9_refuse c_x9_answer [some (.inr (.inr (some (9, 0)))), some (.inl l1), some (.inl l2), none, none] [] s := rfl
noncomputable def x9_pass_G (c_x7_howManyFit : Sg → Nat → Option (Sg × Int32)) (c_x0_attempt : Sg → Int32 → Int32 → Int32 → Option (Sg × Int32)) (c_x9_refuse : Sg → Int32 → Option (Sg × Int32)) (c_x9_answer : Sg → Int32 → Option (Sg × Int32)) (s : Sg) : Option (Sg × Int32) :=
  (c_x7_howManyFit s 0).bind fun q1 => (
  (c_x0_attempt q1.1 3 0 0).bind fun q2 => (
  gif ((q2.2 : Int32) = 0) (
    (c_x9_answer q2.1 q1.2).bind fun q3 => (
    some (q3.1, q3.2)))
  (
    (c_x9_refuse q2.1 q2.2).bind fun q4 => (
    some (q4.1, q4.2)))))
noncomputable def x9_pass : Sg → Option (Sg × Int32) := x9_pass_G x7_howManyFit x0_attempt x9_refuse x9_answer
noncomputable def t_x9_pass (c_x7_howManyFit : Sg → Nat → Option (Sg × Int32)) (c_x0_attempt : Sg → Int32 → Int32 → Int32 → Option (Sg × Int32)) (c_x9_refuse : Sg → Int32 → Option (Sg × Int32)) (c_x9_answer : Sg → Int32 → Option (Sg × Int32)) : Bk (Sg × Int32) := (s_ldA 0 (s_getRc 9 9 7 0 (s_ldA 0 (s_getRc 9 1 1 0 (s_call (FW_x7_howManyFit c_x7_howManyFit) 2 (s_stI 1 (s_ldA 0 (s_getRc 9 0 0 0 (s_ic 3 (s_ic 0 (s_ic 0 (s_call (FW_x0_attempt c_x0_attempt) 4 (s_stI 2 (s_ldI 2 (s_eq0
  (s_ldA 0 (s_ldI 1 (s_call (FW_x9_answer c_x9_answer) 2 (s_iret retI))))
  (s_ldA 0 (s_ldI 2 (s_call (FW_x9_refuse c_x9_refuse) 2 (s_goto (s_iret retI))))))))))))))))))))
set_option maxRecDepth 20000 in
theorem e_x9_pass (c_x7_howManyFit : Sg → Nat → Option (Sg × Int32)) (c_x0_attempt : Sg → Int32 → Int32 → Int32 → Option (Sg × Int32)) (c_x9_refuse : Sg → Int32 → Option (Sg × Int32)) (c_x9_answer : Sg → Int32 → Option (Sg × Int32)) (s : Sg) : x9_pass_G c_x7_howManyFit c_x0_attempt c_x9_refuse c_x9_answer s = t_x9_pass c_x7_howManyFit c_x0_attempt c_x9_refuse c_x9_answer [some (.inr (.inr (some (9, 0)))), none, none] [] s := rfl
noncomputable def x9_undo_G (c_x3_takeBack : Sg → Nat → Nat → Option (Sg × Int32)) (c_x9_refuse : Sg → Int32 → Option (Sg × Int32)) (c_x9_answer : Sg → Int32 → Option (Sg × Int32)) (s : Sg) : Option (Sg × Int32) :=
  (c_x3_takeBack s 0 0).bind fun q1 => (
  gif ((q1.2 : Int32) = (-1)) (
    (c_x9_refuse q1.1 (-3)).bind fun q2 => (
    some (q2.1, q2.2)))
  (
    (c_x9_answer q1.1 q1.2).bind fun q3 => (
    some (q3.1, q3.2))))
noncomputable def x9_undo : Sg → Option (Sg × Int32) := x9_undo_G x3_takeBack x9_refuse x9_answer
noncomputable def t_x9_undo (c_x3_takeBack : Sg → Nat → Nat → Option (Sg × Int32)) (c_x9_refuse : Sg → Int32 → Option (Sg × Int32)) (c_x9_answer : Sg → Int32 → Option (Sg × Int32)) : Bk (Sg × Int32) := (s_ldA 0 (s_getRc 9 8 3 0 (s_ldA 0 (s_getRc 9 1 1 0 (s_call (FW_x3_takeBack c_x3_takeBack) 2 (s_stI 1 (s_ldI 1 (s_ic (-1) (s_ceq
  (s_ldA 0 (s_ic (-3) (s_call (FW_x9_refuse c_x9_refuse) 2 (s_goto (s_iret retI)))))
  (s_ldA 0 (s_ldI 1 (s_call (FW_x9_answer c_x9_answer) 2 (s_iret retI)))))))))))))
set_option maxRecDepth 20000 in
theorem e_x9_undo (c_x3_takeBack : Sg → Nat → Nat → Option (Sg × Int32)) (c_x9_refuse : Sg → Int32 → Option (Sg × Int32)) (c_x9_answer : Sg → Int32 → Option (Sg × Int32)) (s : Sg) : x9_undo_G c_x3_takeBack c_x9_refuse c_x9_answer s = t_x9_undo c_x3_takeBack c_x9_refuse c_x9_answer [some (.inr (.inr (some (9, 0)))), none] [] s := rfl
noncomputable def x9_layPaper_G (c_x5_layOut : Sg → Nat → Nat → Int32 → Int32 → Option Sg) (s : Sg) (g1 : Nat) (g2 : Nat) : Option Sg :=
  match g2 with
  | 0 => (
    gd (inb 3 4) (
    (c_x5_layOut s g1 0 (rI s 15 g1 (ix 3)) 0).bind fun s1 => (
    some s1)))
  | t + 1 => (
    gd (inb 3 4) (
    (c_x5_layOut s g1 (t + 1) (rI s 15 g1 (ix 3)) 0).bind fun s2 => (
    some s2)))
noncomputable def x9_layPaper : Sg → Nat → Nat → Option Sg := x9_layPaper_G x5_layOut
noncomputable def t_x9_layPaper (c_x5_layOut : Sg → Nat → Nat → Int32 → Int32 → Option Sg) : Bk Sg := (s_ldA 0 (s_getRc 9 10 5 0 (s_ldA 1 (s_ldA 2 (s_ldA 1 (s_getRv 1 3 15 (s_ic 3 (s_iald 15 4 (s_ic 0 (s_call (FW_x5_layOut c_x5_layOut) 5 (s_vret retV)))))))))))
set_option maxRecDepth 20000 in
theorem e_x9_layPaper (c_x5_layOut : Sg → Nat → Nat → Int32 → Int32 → Option Sg) (s : Sg) (g1 : Nat) (g2 : Nat) : x9_layPaper_G c_x5_layOut s g1 g2 = t_x9_layPaper c_x5_layOut [some (.inr (.inr (some (9, 0)))), some (.inr (.inr (some (1, g1)))), some (g_nt g2)] [] s := by cases g2 <;> rfl
noncomputable def x9_best_G (c_x1_lawInForce : Sg → Nat → Option (Sg × Nat)) (c_x9_layPaper : Sg → Nat → Nat → Option Sg) (c_x5_bestCosts : Sg → Option (Sg × Int32)) (c_x5_bestPlace : Sg → Int32 → Option (Sg × Int32)) (s : Sg) (l1 : Int32) : Option (Sg × Int32) :=
  (c_x1_lawInForce s 0).bind fun q1 => (
  match q1.2 with
  | 0 => (
    (c_x9_layPaper q1.1 0 0).bind fun s3 => (
    gif ((l1 : Int32) = (-1)) (
      (c_x5_bestCosts s3).bind fun q4 => (
      some (q4.1, q4.2)))
    (
      (c_x5_bestPlace s3 l1).bind fun q5 => (
      some (q5.1, q5.2)))))
  | t2 + 1 => (
    (c_x9_layPaper q1.1 0 (t2 + 1)).bind fun s6 => (
    gif ((l1 : Int32) = (-1)) (
      (c_x5_bestCosts s6).bind fun q7 => (
      some (q7.1, q7.2)))
    (
      (c_x5_bestPlace s6 l1).bind fun q8 => (
      some (q8.1, q8.2))))))
noncomputable def x9_best : Sg → Int32 → Option (Sg × Int32) := x9_best_G x1_lawInForce x9_layPaper x5_bestCosts x5_bestPlace
noncomputable def t_x9_best (c_x1_lawInForce : Sg → Nat → Option (Sg × Nat)) (c_x9_layPaper : Sg → Nat → Nat → Option Sg) (c_x5_bestCosts : Sg → Option (Sg × Int32)) (c_x5_bestPlace : Sg → Int32 → Option (Sg × Int32)) : Bk (Sg × Int32) := (s_ldA 0 (s_ldA 0 (s_getRc 9 1 1 0 (s_ldA 0 (s_getRc 9 1 1 0 (s_call (FW_x1_lawInForce c_x1_lawInForce) 1 (s_call (FW_x9_layPaper c_x9_layPaper) 3 (s_ldI 1 (s_ic (-1) (s_ceq
  (s_ldA 0 (s_getRc 9 10 5 0 (s_call (FW_x5_bestCosts c_x5_bestCosts) 1 (s_goto (s_iret retI)))))
  (s_ldA 0 (s_getRc 9 10 5 0 (s_ldI 1 (s_call (FW_x5_bestPlace c_x5_bestPlace) 2 (s_iret retI)))))))))))))))
set_option maxRecDepth 20000 in
theorem e_x9_best (c_x1_lawInForce : Sg → Nat → Option (Sg × Nat)) (c_x9_layPaper : Sg → Nat → Nat → Option Sg) (c_x5_bestCosts : Sg → Option (Sg × Int32)) (c_x5_bestPlace : Sg → Int32 → Option (Sg × Int32)) (s : Sg) (l1 : Int32) : x9_best_G c_x1_lawInForce c_x9_layPaper c_x5_bestCosts c_x5_bestPlace s l1 = t_x9_best c_x1_lawInForce c_x9_layPaper c_x5_bestCosts c_x5_bestPlace [some (.inr (.inr (some (9, 0)))), some (.inl l1)] [] s := rfl
noncomputable def x9_just_G (c_x1_lawInForce : Sg → Nat → Option (Sg × Nat)) (c_x9_layPaper : Sg → Nat → Nat → Option Sg) (c_x5_leastOfJust : Sg → Int32 → Option (Sg × Int32)) (s : Sg) (l1 : Int32) : Option (Sg × Int32) :=
  (c_x1_lawInForce s 0).bind fun q1 => (
  match q1.2 with
  | 0 => (
    (c_x9_layPaper q1.1 0 0).bind fun s3 => (
    (c_x5_leastOfJust s3 l1).bind fun q4 => (
    some (q4.1, q4.2))))
  | t2 + 1 => (
    (c_x9_layPaper q1.1 0 (t2 + 1)).bind fun s5 => (
    (c_x5_leastOfJust s5 l1).bind fun q6 => (
    some (q6.1, q6.2)))))
noncomputable def x9_just : Sg → Int32 → Option (Sg × Int32) := x9_just_G x1_lawInForce x9_layPaper x5_leastOfJust
noncomputable def t_x9_just (c_x1_lawInForce : Sg → Nat → Option (Sg × Nat)) (c_x9_layPaper : Sg → Nat → Nat → Option Sg) (c_x5_leastOfJust : Sg → Int32 → Option (Sg × Int32)) : Bk (Sg × Int32) := (s_ldA 0 (s_ldA 0 (s_getRc 9 1 1 0 (s_ldA 0 (s_getRc 9 1 1 0 (s_call (FW_x1_lawInForce c_x1_lawInForce) 1 (s_call (FW_x9_layPaper c_x9_layPaper) 3 (s_ldA 0 (s_getRc 9 10 5 0 (s_ldI 1 (s_call (FW_x5_leastOfJust c_x5_leastOfJust) 2 (s_iret retI))))))))))))
set_option maxRecDepth 20000 in
theorem e_x9_just (c_x1_lawInForce : Sg → Nat → Option (Sg × Nat)) (c_x9_layPaper : Sg → Nat → Nat → Option Sg) (c_x5_leastOfJust : Sg → Int32 → Option (Sg × Int32)) (s : Sg) (l1 : Int32) : x9_just_G c_x1_lawInForce c_x9_layPaper c_x5_leastOfJust s l1 = t_x9_just c_x1_lawInForce c_x9_layPaper c_x5_leastOfJust [some (.inr (.inr (some (9, 0)))), some (.inl l1)] [] s := rfl
noncomputable def x9_fewest_b17_G (K17 : Sg → Int32 → Option (Sg × Int32)) (c_x5_canBeOf : Sg → Int32 → Option (Sg × Int32)) (s : Sg) (l1 : Int32) : Option (Sg × Int32) :=
  gif ((24 : Int32) < l1) (
    some (s, (-1)))
  (
    (c_x5_canBeOf s l1).bind fun q1 => (
    gif ((q1.2 : Int32) = 0) (
      K17 q1.1 (l1 + 1))
    (
      some (q1.1, l1))))
noncomputable def x9_fewest_b17 : Nat → Sg → Int32 → Option (Sg × Int32)
  | 0 => fun _ _ => none
  | n + 1 => x9_fewest_b17_G (x9_fewest_b17 n) x5_canBeOf
noncomputable def t_x9_fewest_b17 (K17 : Sg → Int32 → Option (Sg × Int32)) (c_x5_canBeOf : Sg → Int32 → Option (Sg × Int32)) : Bk (Sg × Int32) := (s_ldI 1 (s_ic 24 (s_cgt
  (s_ic (-1) (s_iret retI))
  (s_ldA 0 (s_getRc 9 10 5 0 (s_ldI 1 (s_call (FW_x5_canBeOf c_x5_canBeOf) 2 (s_eq0
    (s_inc 1 1 (s_goto (p_C 0 9 0 <| p_I 1 fun a1 => p_E fun s => K17 s a1)))
    (s_ldI 1 (s_iret retI))))))))))
set_option maxRecDepth 20000 in
theorem e_x9_fewest_b17 (K17 : Sg → Int32 → Option (Sg × Int32)) (c_x5_canBeOf : Sg → Int32 → Option (Sg × Int32)) (s : Sg) (l1 : Int32) : x9_fewest_b17_G K17 c_x5_canBeOf s l1 = t_x9_fewest_b17 K17 c_x5_canBeOf [some (.inr (.inr (some (9, 0)))), some (.inl l1)] [] s := rfl
noncomputable def x9_fewest_G (K17 : Sg → Int32 → Option (Sg × Int32)) (c_x1_lawInForce : Sg → Nat → Option (Sg × Nat)) (c_x9_layPaper : Sg → Nat → Nat → Option Sg) (s : Sg) : Option (Sg × Int32) :=
  (c_x1_lawInForce s 0).bind fun q1 => (
  match q1.2 with
  | 0 => (
    (c_x9_layPaper q1.1 0 0).bind fun s3 => (
    K17 s3 0))
  | t2 + 1 => (
    (c_x9_layPaper q1.1 0 (t2 + 1)).bind fun s4 => (
    K17 s4 0)))
noncomputable def x9_fewest : Sg → Option (Sg × Int32) := x9_fewest_G (x9_fewest_b17 FU) x1_lawInForce x9_layPaper
noncomputable def t_x9_fewest (K17 : Sg → Int32 → Option (Sg × Int32)) (c_x1_lawInForce : Sg → Nat → Option (Sg × Nat)) (c_x9_layPaper : Sg → Nat → Nat → Option Sg) : Bk (Sg × Int32) := (s_ldA 0 (s_ldA 0 (s_getRc 9 1 1 0 (s_ldA 0 (s_getRc 9 1 1 0 (s_call (FW_x1_lawInForce c_x1_lawInForce) 1 (s_call (FW_x9_layPaper c_x9_layPaper) 3 (s_ic 0 (s_stI 1 (p_C 0 9 0 <| p_I 1 fun a1 => p_E fun s => K17 s a1))))))))))
set_option maxRecDepth 20000 in
theorem e_x9_fewest (K17 : Sg → Int32 → Option (Sg × Int32)) (c_x1_lawInForce : Sg → Nat → Option (Sg × Nat)) (c_x9_layPaper : Sg → Nat → Nat → Option Sg) (s : Sg) : x9_fewest_G K17 c_x1_lawInForce c_x9_layPaper s = t_x9_fewest K17 c_x1_lawInForce c_x9_layPaper [some (.inr (.inr (some (9, 0)))), none] [] s := rfl
noncomputable def x9_most_b18_G (K18 : Sg → Int32 → Option (Sg × Int32)) (c_x5_canBeOf : Sg → Int32 → Option (Sg × Int32)) (s : Sg) (l1 : Int32) : Option (Sg × Int32) :=
  gif ((l1 : Int32) < 0) (
    some (s, (-1)))
  (
    (c_x5_canBeOf s l1).bind fun q1 => (
    gif ((q1.2 : Int32) = 0) (
      K18 q1.1 (l1 + (-1)))
    (
      some (q1.1, l1))))
noncomputable def x9_most_b18 : Nat → Sg → Int32 → Option (Sg × Int32)
  | 0 => fun _ _ => none
  | n + 1 => x9_most_b18_G (x9_most_b18 n) x5_canBeOf
noncomputable def t_x9_most_b18 (K18 : Sg → Int32 → Option (Sg × Int32)) (c_x5_canBeOf : Sg → Int32 → Option (Sg × Int32)) : Bk (Sg × Int32) := (s_ldI 1 (s_lt0
  (s_ic (-1) (s_iret retI))
  (s_ldA 0 (s_getRc 9 10 5 0 (s_ldI 1 (s_call (FW_x5_canBeOf c_x5_canBeOf) 2 (s_eq0
    (s_inc 1 (-1) (s_goto (p_C 0 9 0 <| p_I 1 fun a1 => p_E fun s => K18 s a1)))
    (s_ldI 1 (s_iret retI)))))))))
set_option maxRecDepth 20000 in
theorem e_x9_most_b18 (K18 : Sg → Int32 → Option (Sg × Int32)) (c_x5_canBeOf : Sg → Int32 → Option (Sg × Int32)) (s : Sg) (l1 : Int32) : x9_most_b18_G K18 c_x5_canBeOf s l1 = t_x9_most_b18 K18 c_x5_canBeOf [some (.inr (.inr (some (9, 0)))), some (.inl l1)] [] s := rfl
noncomputable def x9_most_G (K18 : Sg → Int32 → Option (Sg × Int32)) (c_x1_lawInForce : Sg → Nat → Option (Sg × Nat)) (c_x9_layPaper : Sg → Nat → Nat → Option Sg) (s : Sg) : Option (Sg × Int32) :=
  (c_x1_lawInForce s 0).bind fun q1 => (
  match q1.2 with
  | 0 => (
    (c_x9_layPaper q1.1 0 0).bind fun s3 => (
    K18 s3 24))
  | t2 + 1 => (
    (c_x9_layPaper q1.1 0 (t2 + 1)).bind fun s4 => (
    K18 s4 24)))
noncomputable def x9_most : Sg → Option (Sg × Int32) := x9_most_G (x9_most_b18 FU) x1_lawInForce x9_layPaper
noncomputable def t_x9_most (K18 : Sg → Int32 → Option (Sg × Int32)) (c_x1_lawInForce : Sg → Nat → Option (Sg × Nat)) (c_x9_layPaper : Sg → Nat → Nat → Option Sg) : Bk (Sg × Int32) := (s_ldA 0 (s_ldA 0 (s_getRc 9 1 1 0 (s_ldA 0 (s_getRc 9 1 1 0 (s_call (FW_x1_lawInForce c_x1_lawInForce) 1 (s_call (FW_x9_layPaper c_x9_layPaper) 3 (s_ic 24 (s_stI 1 (p_C 0 9 0 <| p_I 1 fun a1 => p_E fun s => K18 s a1))))))))))
set_option maxRecDepth 20000 in
theorem e_x9_most (K18 : Sg → Int32 → Option (Sg × Int32)) (c_x1_lawInForce : Sg → Nat → Option (Sg × Nat)) (c_x9_layPaper : Sg → Nat → Nat → Option Sg) (s : Sg) : x9_most_G K18 c_x1_lawInForce c_x9_layPaper s = t_x9_most K18 c_x1_lawInForce c_x9_layPaper [some (.inr (.inr (some (9, 0)))), none] [] s := rfl
noncomputable def x9_ways_G (c_x1_lawInForce : Sg → Nat → Option (Sg × Nat)) (c_x9_layPaper : Sg → Nat → Nat → Option Sg) (c_x5_waysInAll : Sg → Option (Sg × Int64)) (s : Sg) : Option (Sg × Int64) :=
  (c_x1_lawInForce s 0).bind fun q1 => (
  match q1.2 with
  | 0 => (
    (c_x9_layPaper q1.1 0 0).bind fun s3 => (
    (c_x5_waysInAll s3).bind fun q4 => (
    some (q4.1, q4.2))))
  | t2 + 1 => (
    (c_x9_layPaper q1.1 0 (t2 + 1)).bind fun s5 => (
    (c_x5_waysInAll s5).bind fun q6 => (
    some (q6.1, q6.2)))))
noncomputable def x9_ways : Sg → Option (Sg × Int64) := x9_ways_G x1_lawInForce x9_layPaper x5_waysInAll
noncomputable def t_x9_ways (c_x1_lawInForce : Sg → Nat → Option (Sg × Nat)) (c_x9_layPaper : Sg → Nat → Nat → Option Sg) (c_x5_waysInAll : Sg → Option (Sg × Int64)) : Bk (Sg × Int64) := (s_ldA 0 (s_ldA 0 (s_getRc 9 1 1 0 (s_ldA 0 (s_getRc 9 1 1 0 (s_call (FW_x1_lawInForce c_x1_lawInForce) 1 (s_call (FW_x9_layPaper c_x9_layPaper) 3 (s_ldA 0 (s_getRc 9 10 5 0 (s_call (FW_x5_waysInAll c_x5_waysInAll) 1 (s_lret retL)))))))))))
set_option maxRecDepth 20000 in
theorem e_x9_ways (c_x1_lawInForce : Sg → Nat → Option (Sg × Nat)) (c_x9_layPaper : Sg → Nat → Nat → Option Sg) (c_x5_waysInAll : Sg → Option (Sg × Int64)) (s : Sg) : x9_ways_G c_x1_lawInForce c_x9_layPaper c_x5_waysInAll s = t_x9_ways c_x1_lawInForce c_x9_layPaper c_x5_waysInAll [some (.inr (.inr (some (9, 0))))] [] s := rfl
noncomputable def x9_richest_G (c_x1_lawInForce : Sg → Nat → Option (Sg × Nat)) (c_x9_layPaper : Sg → Nat → Nat → Option Sg) (c_x5_mostPaid : Sg → Option (Sg × Int32)) (s : Sg) : Option (Sg × Int32) :=
  (c_x1_lawInForce s 0).bind fun q1 => (
  match q1.2 with
  | 0 => (
    (c_x9_layPaper q1.1 0 0).bind fun s3 => (
    (c_x5_mostPaid s3).bind fun q4 => (
    some (q4.1, q4.2))))
  | t2 + 1 => (
    (c_x9_layPaper q1.1 0 (t2 + 1)).bind fun s5 => (
    (c_x5_mostPaid s5).bind fun q6 => (
    some (q6.1, q6.2)))))
noncomputable def x9_richest : Sg → Option (Sg × Int32) := x9_richest_G x1_lawInForce x9_layPaper x5_mostPaid
noncomputable def t_x9_richest (c_x1_lawInForce : Sg → Nat → Option (Sg × Nat)) (c_x9_layPaper : Sg → Nat → Nat → Option Sg) (c_x5_mostPaid : Sg → Option (Sg × Int32)) : Bk (Sg × Int32) := (s_ldA 0 (s_ldA 0 (s_getRc 9 1 1 0 (s_ldA 0 (s_getRc 9 1 1 0 (s_call (FW_x1_lawInForce c_x1_lawInForce) 1 (s_call (FW_x9_layPaper c_x9_layPaper) 3 (s_ldA 0 (s_getRc 9 10 5 0 (s_call (FW_x5_mostPaid c_x5_mostPaid) 1 (s_iret retI)))))))))))
set_option maxRecDepth 20000 in
theorem e_x9_richest (c_x1_lawInForce : Sg → Nat → Option (Sg × Nat)) (c_x9_layPaper : Sg → Nat → Nat → Option Sg) (c_x5_mostPaid : Sg → Option (Sg × Int32)) (s : Sg) : x9_richest_G c_x1_lawInForce c_x9_layPaper c_x5_mostPaid s = t_x9_richest c_x1_lawInForce c_x9_layPaper c_x5_mostPaid [some (.inr (.inr (some (9, 0))))] [] s := rfl
noncomputable def x9_narrow_b18_G (K18 : Sg → Int32 → Int32 → Option (Sg × Int32)) (c_x1_lawInForce : Sg → Nat → Option (Sg × Nat)) (c_x5_layOut : Sg → Nat → Nat → Int32 → Int32 → Option Sg) (c_x5_canBeOfAtMost : Sg → Int32 → Option (Sg × Int32)) (s : Sg) (l1 : Int32) (l2 : Int32) : Option (Sg × Int32) :=
  gd (inb 3 4) (
  gif (((rI s 77 0 (ix 3)) : Int32) < l2) (
    some (s, (-1)))
  (
    (c_x1_lawInForce s 0).bind fun q1 => (
    match q1.2 with
    | 0 => (
      (c_x5_layOut q1.1 0 0 l2 1).bind fun s3 => (
      (c_x5_canBeOfAtMost s3 l1).bind fun q4 => (
      gif ((q4.2 : Int32) = 0) (
        K18 q4.1 l1 (l2 + 1))
      (
        some (q4.1, l2)))))
    | t2 + 1 => (
      (c_x5_layOut q1.1 0 (t2 + 1) l2 1).bind fun s5 => (
      (c_x5_canBeOfAtMost s5 l1).bind fun q6 => (
      gif ((q6.2 : Int32) = 0) (
        K18 q6.1 l1 (l2 + 1))
      (
        some (q6.1, l2))))))))
noncomputable def x9_narrow_b18 : Nat → Sg → Int32 → Int32 → Option (Sg × Int32)
  | 0 => fun _ _ _ => none
  | n + 1 => x9_narrow_b18_G (x9_narrow_b18 n) x1_lawInForce x5_layOut x5_canBeOfAtMost
noncomputable def t_x9_narrow_b18 (K18 : Sg → Int32 → Int32 → Option (Sg × Int32)) (c_x1_lawInForce : Sg → Nat → Option (Sg × Nat)) (c_x5_layOut : Sg → Nat → Nat → Int32 → Int32 → Option Sg) (c_x5_canBeOfAtMost : Sg → Int32 → Option (Sg × Int32)) : Bk (Sg × Int32) := (s_ldI 2 (s_ref 77 9 (s_ic 3 (s_iald 77 4 (s_cgt
  (s_ic (-1) (s_iret retI))
  (s_ldA 0 (s_getRc 9 10 5 0 (s_ldA 0 (s_getRc 9 1 1 0 (s_ldA 0 (s_getRc 9 1 1 0 (s_call (FW_x1_lawInForce c_x1_lawInForce) 1 (s_ldI 2 (s_ic 1 (s_call (FW_x5_layOut c_x5_layOut) 5 (s_ldA 0 (s_getRc 9 10 5 0 (s_ldI 1 (s_call (FW_x5_canBeOfAtMost c_x5_canBeOfAtMost) 2 (s_eq0
    (s_inc 2 1 (s_goto (p_C 0 9 0 <| p_I 1 fun a1 => p_I 2 fun a2 => p_E fun s => K18 s a1 a2)))
    (s_ldI 2 (s_iret retI))))))))))))))))))))))
set_option maxRecDepth 20000 in
theorem e_x9_narrow_b18 (K18 : Sg → Int32 → Int32 → Option (Sg × Int32)) (c_x1_lawInForce : Sg → Nat → Option (Sg × Nat)) (c_x5_layOut : Sg → Nat → Nat → Int32 → Int32 → Option Sg) (c_x5_canBeOfAtMost : Sg → Int32 → Option (Sg × Int32)) (s : Sg) (l1 : Int32) (l2 : Int32) : x9_narrow_b18_G K18 c_x1_lawInForce c_x5_layOut c_x5_canBeOfAtMost s l1 l2 = t_x9_narrow_b18 K18 c_x1_lawInForce c_x5_layOut c_x5_canBeOfAtMost [some (.inr (.inr (some (9, 0)))), some (.inl l1), some (.inl l2)] [] s := rfl
noncomputable def x9_narrow_G (K18 : Sg → Int32 → Int32 → Option (Sg × Int32)) (s : Sg) (l1 : Int32) : Option (Sg × Int32) :=
  gif ((l1 : Int32) < 0) (
    some (s, (-1)))
  (
    gif ((24 : Int32) < l1) (
      some (s, (-1)))
    (
      gd (inb 3 4) (
      K18 s l1 (rI s 76 0 (ix 3)))))
noncomputable def x9_narrow : Sg → Int32 → Option (Sg × Int32) := x9_narrow_G (x9_narrow_b18 FU)
noncomputable def t_x9_narrow (K18 : Sg → Int32 → Int32 → Option (Sg × Int32)) : Bk (Sg × Int32) := (s_ldI 1 (s_lt0
  (s_ic (-1) (s_iret retI))
  (s_ldI 1 (s_ic 24 (s_cgt
    (s_ic (-1) (s_iret retI))
    (s_ref 76 9 (s_ic 3 (s_iald 76 4 (s_stI 2 (p_C 0 9 0 <| p_I 1 fun a1 => p_I 2 fun a2 => p_E fun s => K18 s a1 a2))))))))))
set_option maxRecDepth 20000 in
theorem e_x9_narrow (K18 : Sg → Int32 → Int32 → Option (Sg × Int32)) (s : Sg) (l1 : Int32) : x9_narrow_G K18 s l1 = t_x9_narrow K18 [some (.inr (.inr (some (9, 0)))), some (.inl l1), none] [] s := rfl
noncomputable def x9_leaveOut_b18_G (K18 : Sg → Int32 → Int32 → Int32 → Int32 → Option (Sg × Int32)) (c_x1_copyFrom : Sg → Nat → Nat → Option Sg) (c_x1_dropWord : Sg → Nat → Int32 → Option Sg) (c_x1_lawInForce : Sg → Nat → Option (Sg × Nat)) (c_x9_layPaper : Sg → Nat → Nat → Option Sg) (c_x5_bestCosts : Sg → Option (Sg × Int32)) (s : Sg) (l1 : Int32) (l2 : Int32) (l3 : Int32) (l4 : Int32) : Option (Sg × Int32) :=
  gif ((l4 : Int32) < (rI s 1 0 7)) (
    (c_x1_copyFrom s 1 0).bind fun s1 => (
    (c_x1_dropWord s1 1 l4).bind fun s2 => (
    (c_x1_lawInForce s2 0).bind fun q3 => (
    match q3.2 with
    | 0 => (
      (c_x9_layPaper q3.1 1 0).bind fun s5 => (
      (c_x5_bestCosts s5).bind fun q6 => (
      gif ((q6.2 : Int32) = (-1)) (
        K18 q6.1 l1 l2 l3 (l4 + 1))
      (
        gif ((l2 : Int32) = (-1)) (
          K18 q6.1 l1 l4 q6.2 (l4 + 1))
        (
          gif ((q6.2 : Int32) < l3) (
            K18 q6.1 l1 l4 q6.2 (l4 + 1))
          (
            K18 q6.1 l1 l2 l3 (l4 + 1)))))))
    | t4 + 1 => (
      (c_x9_layPaper q3.1 1 (t4 + 1)).bind fun s7 => (
      (c_x5_bestCosts s7).bind fun q8 => (
      gif ((q8.2 : Int32) = (-1)) (
        K18 q8.1 l1 l2 l3 (l4 + 1))
      (
        gif ((l2 : Int32) = (-1)) (
          K18 q8.1 l1 l4 q8.2 (l4 + 1))
        (
          gif ((q8.2 : Int32) < l3) (
            K18 q8.1 l1 l4 q8.2 (l4 + 1))
          (
            K18 q8.1 l1 l2 l3 (l4 + 1)))))))))))
  (
    gif ((l1 : Int32) = 0) (
      some (s, l2))
    (
      some (s, l3)))
noncomputable def x9_leaveOut_b18 : Nat → Sg → Int32 → Int32 → Int32 → Int32 → Option (Sg × Int32)
  | 0 => fun _ _ _ _ _ => none
  | n + 1 => x9_leaveOut_b18_G (x9_leaveOut_b18 n) x1_copyFrom x1_dropWord x1_lawInForce x9_layPaper x5_bestCosts
noncomputable def t_x9_leaveOut_b18 (K18 : Sg → Int32 → Int32 → Int32 → Int32 → Option (Sg × Int32)) (c_x1_copyFrom : Sg → Nat → Nat → Option Sg) (c_x1_dropWord : Sg → Nat → Int32 → Option Sg) (c_x1_lawInForce : Sg → Nat → Option (Sg × Nat)) (c_x9_layPaper : Sg → Nat → Nat → Option Sg) (c_x5_bestCosts : Sg → Option (Sg × Int32)) : Bk (Sg × Int32) := (s_ldI 4 (s_ldA 0 (s_getRc 9 1 1 0 (s_getI 1 7 (s_clt
  (s_ldA 0 (s_getRc 9 2 1 1 (s_ldA 0 (s_getRc 9 1 1 0 (s_call (FW_x1_copyFrom c_x1_copyFrom) 2 (s_ldA 0 (s_getRc 9 2 1 1 (s_ldI 4 (s_call (FW_x1_dropWord c_x1_dropWord) 2 (s_ldA 0 (s_ldA 0 (s_getRc 9 2 1 1 (s_ldA 0 (s_getRc 9 1 1 0 (s_call (FW_x1_lawInForce c_x1_lawInForce) 1 (s_call (FW_x9_layPaper c_x9_layPaper) 3 (s_ldA 0 (s_getRc 9 10 5 0 (s_call (FW_x5_bestCosts c_x5_bestCosts) 1 (s_stI 5 (s_ldI 5 (s_ic (-1) (s_ceq
    (s_inc 4 1 (s_goto (p_C 0 9 0 <| p_I 1 fun a1 => p_I 2 fun a2 => p_I 3 fun a3 => p_I 4 fun a4 => p_E fun s => K18 s a1 a2 a3 a4)))
    (s_ldI 2 (s_ic (-1) (s_ceq
      (s_ldI 4 (s_stI 2 (s_ldI 5 (s_stI 3 (s_inc 4 1 (s_goto (p_C 0 9 0 <| p_I 1 fun a1 => p_I 2 fun a2 => p_I 3 fun a3 => p_I 4 fun a4 => p_E fun s => K18 s a1 a2 a3 a4)))))))
      (s_ldI 5 (s_ldI 3 (s_clt
        (s_ldI 4 (s_stI 2 (s_ldI 5 (s_stI 3 (s_inc 4 1 (s_goto (p_C 0 9 0 <| p_I 1 fun a1 => p_I 2 fun a2 => p_I 3 fun a3 => p_I 4 fun a4 => p_E fun s => K18 s a1 a2 a3 a4)))))))
        (s_inc 4 1 (s_goto (p_C 0 9 0 <| p_I 1 fun a1 => p_I 2 fun a2 => p_I 3 fun a3 => p_I 4 fun a4 => p_E fun s => K18 s a1 a2 a3 a4))))))))))))))))))))))))))))))))
  (s_ldI 1 (s_eq0
    (s_ldI 2 (s_goto (s_iret retI)))
    (s_ldI 3 (s_iret retI)))))))))
set_option maxRecDepth 20000 in
theorem e_x9_leaveOut_b18 (K18 : Sg → Int32 → Int32 → Int32 → Int32 → Option (Sg × Int32)) (c_x1_copyFrom : Sg → Nat → Nat → Option Sg) (c_x1_dropWord : Sg → Nat → Int32 → Option Sg) (c_x1_lawInForce : Sg → Nat → Option (Sg × Nat)) (c_x9_layPaper : Sg → Nat → Nat → Option Sg) (c_x5_bestCosts : Sg → Option (Sg × Int32)) (s : Sg) (l1 : Int32) (l2 : Int32) (l3 : Int32) (l4 : Int32) : x9_leaveOut_b18_G K18 c_x1_copyFrom c_x1_dropWord c_x1_lawInForce c_x9_layPaper c_x5_bestCosts s l1 l2 l3 l4 = t_x9_leaveOut_b18 K18 c_x1_copyFrom c_x1_dropWord c_x1_lawInForce c_x9_layPaper c_x5_bestCosts [some (.inr (.inr (some (9, 0)))), some (.inl l1), some (.inl l2), some (.inl l3), some (.inl l4), none] [] s := rfl
noncomputable def x9_leaveOut_G (K18 : Sg → Int32 → Int32 → Int32 → Int32 → Option (Sg × Int32)) (s : Sg) (l1 : Int32) : Option (Sg × Int32) :=
  gif ((l1 : Int32) < 0) (
    some (s, (-1)))
  (
    gif ((1 : Int32) < l1) (
      some (s, (-1)))
    (
      K18 s l1 (-1) (-1) 0))
noncomputable def x9_leaveOut : Sg → Int32 → Option (Sg × Int32) := x9_leaveOut_G (x9_leaveOut_b18 FU)
noncomputable def t_x9_leaveOut (K18 : Sg → Int32 → Int32 → Int32 → Int32 → Option (Sg × Int32)) : Bk (Sg × Int32) := (s_ldI 1 (s_lt0
  (s_ic (-1) (s_iret retI))
  (s_ldI 1 (s_ic 1 (s_cgt
    (s_ic (-1) (s_iret retI))
    (s_ic (-1) (s_stI 2 (s_ic (-1) (s_stI 3 (s_ic 0 (s_stI 4 (p_C 0 9 0 <| p_I 1 fun a1 => p_I 2 fun a2 => p_I 3 fun a3 => p_I 4 fun a4 => p_E fun s => K18 s a1 a2 a3 a4))))))))))))
set_option maxRecDepth 20000 in
theorem e_x9_leaveOut (K18 : Sg → Int32 → Int32 → Int32 → Int32 → Option (Sg × Int32)) (s : Sg) (l1 : Int32) : x9_leaveOut_G K18 s l1 = t_x9_leaveOut K18 [some (.inr (.inr (some (9, 0)))), some (.inl l1), none, none, none, none] [] s := rfl
noncomputable def x9_river_G (c_x7_readSetting : Sg → Nat → Option Sg) (c_x7_longestRiver : Sg → Nat → Option (Sg × Int32)) (s : Sg) : Option (Sg × Int32) :=
  (c_x7_readSetting s 0).bind fun s1 => (
  (c_x7_longestRiver s1 0).bind fun q2 => (
  some (q2.1, q2.2)))
noncomputable def x9_river : Sg → Option (Sg × Int32) := x9_river_G x7_readSetting x7_longestRiver
noncomputable def t_x9_river (c_x7_readSetting : Sg → Nat → Option Sg) (c_x7_longestRiver : Sg → Nat → Option (Sg × Int32)) : Bk (Sg × Int32) := (s_ldA 0 (s_getRc 9 9 7 0 (s_ldA 0 (s_getRc 9 1 1 0 (s_call (FW_x7_readSetting c_x7_readSetting) 2 (s_ldA 0 (s_getRc 9 9 7 0 (s_ldA 0 (s_getRc 9 1 1 0 (s_call (FW_x7_longestRiver c_x7_longestRiver) 2 (s_iret retI)))))))))))
set_option maxRecDepth 20000 in
theorem e_x9_river (c_x7_readSetting : Sg → Nat → Option Sg) (c_x7_longestRiver : Sg → Nat → Option (Sg × Int32)) (s : Sg) : x9_river_G c_x7_readSetting c_x7_longestRiver s = t_x9_river c_x7_readSetting c_x7_longestRiver [some (.inr (.inr (some (9, 0))))] [] s := rfl
noncomputable def x9_seen_G (c_x9_refuse : Sg → Int32 → Option (Sg × Int32)) (c_x9_answer : Sg → Int32 → Option (Sg × Int32)) (s : Sg) (l1 : Int32) (l2 : Int32) : Option (Sg × Int32) :=
  gif ((l1 : Int32) < 0) (
    (c_x9_refuse s (-1)).bind fun q1 => (
    some (q1.1, q1.2)))
  (
    gif ((l1 : Int32) < (Int32.ofNat 4)) (
      gif ((l2 : Int32) < 0) (
        (c_x9_refuse s (-1)).bind fun q2 => (
        some (q2.1, q2.2)))
      (
        gif ((999 : Int32) < l2) (
          (c_x9_refuse s (-1)).bind fun q3 => (
          some (q3.1, q3.2)))
        (
          gif (((rI s 1 0 10) : Int32) < 6) (
            gd (inb (rI s 1 0 10) 6) (
            let s4 := wI s 16 0 (ix (rI s 1 0 10)) l1
            gd (inb (rI s4 1 0 10) 6) (
            let s5 := wI s4 17 0 (ix (rI s4 1 0 10)) l2
            let s6 := wI s5 1 0 10 ((rI s5 1 0 10) + 1)
            (c_x9_answer s6 (rI s6 1 0 10)).bind fun q7 => (
            some (q7.1, q7.2)))))
          (
            (c_x9_refuse s (-5)).bind fun q8 => (
            some (q8.1, q8.2))))))
    (
      (c_x9_refuse s (-1)).bind fun q9 => (
      some (q9.1, q9.2))))
noncomputable def x9_seen : Sg → Int32 → Int32 → Option (Sg × Int32) := x9_seen_G x9_refuse x9_answer
noncomputable def t_x9_seen (c_x9_refuse : Sg → Int32 → Option (Sg × Int32)) (c_x9_answer : Sg → Int32 → Option (Sg × Int32)) : Bk (Sg × Int32) := (s_ldI 1 (s_lt0
  (s_ldA 0 (s_ic (-1) (s_call (FW_x9_refuse c_x9_refuse) 2 (s_iret retI))))
  (s_ldI 1 (s_ref 78 9 (s_alen 78 4 (s_clt
    (s_ldI 2 (s_lt0
      (s_ldA 0 (s_ic (-1) (s_call (FW_x9_refuse c_x9_refuse) 2 (s_iret retI))))
      (s_ldI 2 (s_ic 999 (s_cgt
        (s_ldA 0 (s_ic (-1) (s_call (FW_x9_refuse c_x9_refuse) 2 (s_iret retI))))
        (s_ldA 0 (s_getRc 9 1 1 0 (s_getI 1 10 (s_ic 6 (s_clt
          (s_ldA 0 (s_getRc 9 1 1 0 (s_getRv 1 4 16 (s_ldA 0 (s_getRc 9 1 1 0 (s_getI 1 10 (s_ldI 1 (s_iast 16 6 (s_ldA 0 (s_getRc 9 1 1 0 (s_getRv 1 5 17 (s_ldA 0 (s_getRc 9 1 1 0 (s_getI 1 10 (s_ldI 2 (s_iast 17 6 (s_ldA 0 (s_getRc 9 1 1 0 (s_dup (s_getI 1 10 (s_ic 1 (s_bin (fun x y => x + y) (s_putI 1 10 (s_ldA 0 (s_ldA 0 (s_getRc 9 1 1 0 (s_getI 1 10 (s_call (FW_x9_answer c_x9_answer) 2 (s_iret retI)))))))))))))))))))))))))))))
          (s_ldA 0 (s_ic (-5) (s_call (FW_x9_refuse c_x9_refuse) 2 (s_iret retI))))))))))))))
    (s_ldA 0 (s_ic (-1) (s_call (FW_x9_refuse c_x9_refuse) 2 (s_iret retI))))))))))
set_option maxRecDepth 20000 in
theorem e_x9_seen (c_x9_refuse : Sg → Int32 → Option (Sg × Int32)) (c_x9_answer : Sg → Int32 → Option (Sg × Int32)) (s : Sg) (l1 : Int32) (l2 : Int32) : x9_seen_G c_x9_refuse c_x9_answer s l1 l2 = t_x9_seen c_x9_refuse c_x9_answer [some (.inr (.inr (some (9, 0)))), some (.inl l1), some (.inl l2)] [] s := rfl
noncomputable def x9_forget_G (s : Sg) : Option (Sg × Int32) :=
  let s1 := wI s 1 0 10 0
  some (s1, (rI s 1 0 10))
noncomputable def x9_forget : Sg → Option (Sg × Int32) := x9_forget_G
noncomputable def t_x9_forget : Bk (Sg × Int32) := (s_ldA 0 (s_getRc 9 1 1 0 (s_getI 1 10 (s_stI 1 (s_ldA 0 (s_getRc 9 1 1 0 (s_ic 0 (s_putI 1 10 (s_ldI 1 (s_iret retI))))))))))
set_option maxRecDepth 20000 in
theorem e_x9_forget (s : Sg) : x9_forget_G s = t_x9_forget [some (.inr (.inr (some (9, 0)))), none] [] s := rfl
noncomputable def x9_canBe_G (c_x7_readSetting : Sg → Nat → Option Sg) (c_x7_linesAsSeen : Sg → Nat → Option (Sg × Int32)) (s : Sg) : Option (Sg × Int32) :=
  (c_x7_readSetting s 0).bind fun s1 => (
  (c_x7_linesAsSeen s1 0).bind fun q2 => (
  some (q2.1, q2.2)))
noncomputable def x9_canBe : Sg → Option (Sg × Int32) := x9_canBe_G x7_readSetting x7_linesAsSeen
noncomputable def t_x9_canBe (c_x7_readSetting : Sg → Nat → Option Sg) (c_x7_linesAsSeen : Sg → Nat → Option (Sg × Int32)) : Bk (Sg × Int32) := (s_ldA 0 (s_getRc 9 9 7 0 (s_ldA 0 (s_getRc 9 1 1 0 (s_call (FW_x7_readSetting c_x7_readSetting) 2 (s_ldA 0 (s_getRc 9 9 7 0 (s_ldA 0 (s_getRc 9 1 1 0 (s_call (FW_x7_linesAsSeen c_x7_linesAsSeen) 2 (s_iret retI)))))))))))
set_option maxRecDepth 20000 in
theorem e_x9_canBe (c_x7_readSetting : Sg → Nat → Option Sg) (c_x7_linesAsSeen : Sg → Nat → Option (Sg × Int32)) (s : Sg) : x9_canBe_G c_x7_readSetting c_x7_linesAsSeen s = t_x9_canBe c_x7_readSetting c_x7_linesAsSeen [some (.inr (.inr (some (9, 0))))] [] s := rfl
noncomputable def x9_look_b56_G (K56 : Sg → Int32 → Int32 → Int32 → Int32 → Int32 → Option (Sg × Int32)) (c_x7_mostAlike : Sg → Int32 → Int32 → Option (Sg × Int32)) (s : Sg) (l1 : Int32) (l2 : Int32) (l3 : Int32) (l4 : Int32) (l5 : Int32) : Option (Sg × Int32) :=
  gif ((l5 : Int32) < (Int32.ofNat 4)) (
    (c_x7_mostAlike s l2 l5).bind fun q1 => (
    gif ((q1.2 : Int32) < l4) (
      K56 q1.1 l1 l2 l5 q1.2 (l5 + 1))
    (
      K56 q1.1 l1 l2 l3 l4 (l5 + 1))))
  (
    gif ((l1 : Int32) = 0) (
      some (s, l3))
    (
      some (s, l4)))
noncomputable def x9_look_b56 : Nat → Sg → Int32 → Int32 → Int32 → Int32 → Int32 → Option (Sg × Int32)
  | 0 => fun _ _ _ _ _ _ => none
  | n + 1 => x9_look_b56_G (x9_look_b56 n) x7_mostAlike
noncomputable def t_x9_look_b56 (K56 : Sg → Int32 → Int32 → Int32 → Int32 → Int32 → Option (Sg × Int32)) (c_x7_mostAlike : Sg → Int32 → Int32 → Option (Sg × Int32)) : Bk (Sg × Int32) := (s_ldI 5 (s_ref 78 9 (s_alen 78 4 (s_clt
  (s_ldA 0 (s_getRc 9 9 7 0 (s_ldI 2 (s_ldI 5 (s_call (FW_x7_mostAlike c_x7_mostAlike) 3 (s_stI 6 (s_ldI 6 (s_ldI 4 (s_clt
    (s_ldI 5 (s_stI 3 (s_ldI 6 (s_stI 4 (s_inc 5 1 (s_goto (p_C 0 9 0 <| p_I 1 fun a1 => p_I 2 fun a2 => p_I 3 fun a3 => p_I 4 fun a4 => p_I 5 fun a5 => p_E fun s => K56 s a1 a2 a3 a4 a5)))))))
    (s_inc 5 1 (s_goto (p_C 0 9 0 <| p_I 1 fun a1 => p_I 2 fun a2 => p_I 3 fun a3 => p_I 4 fun a4 => p_I 5 fun a5 => p_E fun s => K56 s a1 a2 a3 a4 a5))))))))))))
  (s_ldI 1 (s_eq0
    (s_ldI 3 (s_goto (s_iret retI)))
    (s_ldI 4 (s_iret retI))))))))
set_option maxRecDepth 20000 in
theorem e_x9_look_b56 (K56 : Sg → Int32 → Int32 → Int32 → Int32 → Int32 → Option (Sg × Int32)) (c_x7_mostAlike : Sg → Int32 → Int32 → Option (Sg × Int32)) (s : Sg) (l1 : Int32) (l2 : Int32) (l3 : Int32) (l4 : Int32) (l5 : Int32) : x9_look_b56_G K56 c_x7_mostAlike s l1 l2 l3 l4 l5 = t_x9_look_b56 K56 c_x7_mostAlike [some (.inr (.inr (some (9, 0)))), some (.inl l1), some (.inl l2), some (.inl l3), some (.inl l4), some (.inl l5), none] [] s := rfl
noncomputable def x9_look_G (K56 : Sg → Int32 → Int32 → Int32 → Int32 → Int32 → Option (Sg × Int32)) (c_x7_readSetting : Sg → Nat → Option Sg) (c_x7_linesAsSeen : Sg → Nat → Option (Sg × Int32)) (c_x7_mostAlike : Sg → Int32 → Int32 → Option (Sg × Int32)) (s : Sg) (l1 : Int32) : Option (Sg × Int32) :=
  gif ((l1 : Int32) < 0) (
    some (s, (-1)))
  (
    gif ((1 : Int32) < l1) (
      some (s, (-1)))
    (
      (c_x7_readSetting s 0).bind fun s1 => (
      (c_x7_linesAsSeen s1 0).bind fun q2 => (
      gif ((q2.2 : Int32) = 0) (
        some (q2.1, (-1)))
      (
        (c_x7_mostAlike q2.1 q2.2 0).bind fun q3 => (
        K56 q3.1 l1 q2.2 0 q3.2 1))))))
noncomputable def x9_look : Sg → Int32 → Option (Sg × Int32) := x9_look_G (x9_look_b56 FU) x7_readSetting x7_linesAsSeen x7_mostAlike
noncomputable def t_x9_look (K56 : Sg → Int32 → Int32 → Int32 → Int32 → Int32 → Option (Sg × Int32)) (c_x7_readSetting : Sg → Nat → Option Sg) (c_x7_linesAsSeen : Sg → Nat → Option (Sg × Int32)) (c_x7_mostAlike : Sg → Int32 → Int32 → Option (Sg × Int32)) : Bk (Sg × Int32) := (s_ldI 1 (s_lt0
  (s_ic (-1) (s_iret retI))
  (s_ldI 1 (s_ic 1 (s_cgt
    (s_ic (-1) (s_iret retI))
    (s_ldA 0 (s_getRc 9 9 7 0 (s_ldA 0 (s_getRc 9 1 1 0 (s_call (FW_x7_readSetting c_x7_readSetting) 2 (s_ldA 0 (s_getRc 9 9 7 0 (s_ldA 0 (s_getRc 9 1 1 0 (s_call (FW_x7_linesAsSeen c_x7_linesAsSeen) 2 (s_stI 2 (s_ldI 2 (s_eq0
      (s_ic (-1) (s_iret retI))
      (s_ic 0 (s_stI 3 (s_ldA 0 (s_getRc 9 9 7 0 (s_ldI 2 (s_ic 0 (s_call (FW_x7_mostAlike c_x7_mostAlike) 3 (s_stI 4 (s_ic 1 (s_stI 5 (p_C 0 9 0 <| p_I 1 fun a1 => p_I 2 fun a2 => p_I 3 fun a3 => p_I 4 fun a4 => p_I 5 fun a5 => p_E fun s => K56 s a1 a2 a3 a4 a5)))))))))))))))))))))))))))))
set_option maxRecDepth 20000 in
theorem e_x9_look (K56 : Sg → Int32 → Int32 → Int32 → Int32 → Int32 → Option (Sg × Int32)) (c_x7_readSetting : Sg → Nat → Option Sg) (c_x7_linesAsSeen : Sg → Nat → Option (Sg × Int32)) (c_x7_mostAlike : Sg → Int32 → Int32 → Option (Sg × Int32)) (s : Sg) (l1 : Int32) : x9_look_G K56 c_x7_readSetting c_x7_linesAsSeen c_x7_mostAlike s l1 = t_x9_look K56 c_x7_readSetting c_x7_linesAsSeen c_x7_mostAlike [some (.inr (.inr (some (9, 0)))), some (.inl l1), none, none, none, none, none] [] s := rfl
noncomputable def x9_few_b143_G (K143 : Sg → Int32 → Int64 → Int32 → Option (Sg × Int64)) (s : Sg) (l1 : Int32) (l4 : Int64) (l6 : Int32) : Option (Sg × Int64) :=
  gif ((l6 : Int32) < l1) (
    gd (inb l6 20) (
    K143 s l1 (l4 + (rL s 40 0 (ix l6))) (l6 + 1)))
  (
    some (s, l4))
noncomputable def x9_few_b143 : Nat → Sg → Int32 → Int64 → Int32 → Option (Sg × Int64)
  | 0 => fun _ _ _ _ => none
  | n + 1 => x9_few_b143_G (x9_few_b143 n)
noncomputable def t_x9_few_b143 (K143 : Sg → Int32 → Int64 → Int32 → Option (Sg × Int64)) : Bk (Sg × Int64) := (s_ldI 6 (s_ldI 1 (s_clt
  (s_ldL 4 (s_ldA 0 (s_getRc 9 11 40 0 (s_ldI 6 (s_lald 40 20 (s_lbin (fun x y => x + y) (s_stL 4 (s_inc 6 1 (s_goto (p_C 0 9 0 <| p_I 1 fun a1 => p_L 4 fun a4 => p_I 6 fun a6 => p_E fun s => K143 s a1 a4 a6))))))))))
  (s_ldL 4 (s_lret retL)))))
set_option maxRecDepth 20000 in
theorem e_x9_few_b143 (K143 : Sg → Int32 → Int64 → Int32 → Option (Sg × Int64)) (s : Sg) (l1 : Int32) (l4 : Int64) (l6 : Int32) : x9_few_b143_G K143 s l1 l4 l6 = t_x9_few_b143 K143 [some (.inr (.inr (some (9, 0)))), some (.inl l1), none, none, some (.inr (.inl l4)), none, some (.inl l6), none] [] s := rfl
noncomputable def x9_few_b96_G (K66 : Sg → Int32 → Int32 → Int32 → Int32 → Int32 → Option (Sg × Int64)) (s : Sg) (l1 : Int32) (l2 : Int32) (l3 : Int32) (l4 : Int32) (l5 : Int32) (y0 : Int64) : Option (Sg × Int64) :=
  gd (inb l5 20) (
  gd (¬ 10 = (0 : Int64)) (
  gd (inb l5 20) (
  let s1 := wL s 40 0 (ix l5) ((((rL s 40 0 (ix l5)) * (Int32.toInt64 (10 - l3))) / 10) + y0)
  K66 s1 l1 l2 l3 l4 (l5 + (-1)))))
noncomputable def x9_few_b96 (K55 : Sg → Int32 → Int32 → Int32 → Int32 → Option (Sg × Int64)) (K66 : Sg → Int32 → Int32 → Int32 → Int32 → Int32 → Option (Sg × Int64)) : Sg → Int32 → Int32 → Int32 → Int32 → Int32 → Int64 → Option (Sg × Int64) := x9_few_b96_G K66
noncomputable def t_x9_few_b96 (K66 : Sg → Int32 → Int32 → Int32 → Int32 → Int32 → Option (Sg × Int64)) : Bk (Sg × Int64) := (s_stL 6 (s_ldA 0 (s_getRc 9 11 40 0 (s_ldI 5 (s_ldA 0 (s_getRc 9 11 40 0 (s_ldI 5 (s_lald 40 20 (s_ic 10 (s_ldI 3 (s_bin (fun x y => x - y) (s_i2l (s_lbin (fun x y => x * y) (s_lc 10 (s_ldivr (fun x y => x / y) (s_ldL 6 (s_lbin (fun x y => x + y) (s_last 40 20 (s_inc 5 (-1) (s_goto (p_C 0 9 0 <| p_I 1 fun a1 => p_I 2 fun a2 => p_I 3 fun a3 => p_I 4 fun a4 => p_I 5 fun a5 => p_E fun s => K66 s a1 a2 a3 a4 a5)))))))))))))))))))))
set_option maxRecDepth 20000 in
theorem e_x9_few_b96 (K66 : Sg → Int32 → Int32 → Int32 → Int32 → Int32 → Option (Sg × Int64)) (s : Sg) (l1 : Int32) (l2 : Int32) (l3 : Int32) (l4 : Int32) (l5 : Int32) (y0 : Int64) : x9_few_b96_G K66 s l1 l2 l3 l4 l5 y0 = t_x9_few_b96 K66 [some (.inr (.inr (some (9, 0)))), some (.inl l1), some (.inl l2), some (.inl l3), some (.inl l4), some (.inl l5), none, none] [.inr (.inl y0)] s := rfl
noncomputable def x9_few_b66_G (K55 : Sg → Int32 → Int32 → Int32 → Int32 → Option (Sg × Int64)) (K96 : Sg → Int32 → Int32 → Int32 → Int32 → Int32 → Int64 → Option (Sg × Int64)) (s : Sg) (l1 : Int32) (l2 : Int32) (l3 : Int32) (l4 : Int32) (l5 : Int32) : Option (Sg × Int64) :=
  gif ((l5 : Int32) < 0) (
    K55 s l1 l2 l3 (l4 + 1))
  (
    gif ((0 : Int32) < l5) (
      gd (inb (l5 - 1) 20) (
      gd (¬ 10 = (0 : Int64)) (
      K96 s l1 l2 l3 l4 l5 (((rL s 40 0 (ix (l5 - 1))) * (Int32.toInt64 l3)) / 10))))
    (
      K96 s l1 l2 l3 l4 l5 0))
noncomputable def x9_few_b66 (K55 : Sg → Int32 → Int32 → Int32 → Int32 → Option (Sg × Int64)) : Nat → Sg → Int32 → Int32 → Int32 → Int32 → Int32 → Option (Sg × Int64)
  | 0 => fun _ _ _ _ _ _ => none
  | n + 1 => x9_few_b66_G K55 (x9_few_b96 K55 (x9_few_b66 K55 n))
noncomputable def t_x9_few_b66 (K55 : Sg → Int32 → Int32 → Int32 → Int32 → Option (Sg × Int64)) (K96 : Sg → Int32 → Int32 → Int32 → Int32 → Int32 → Int64 → Option (Sg × Int64)) : Bk (Sg × Int64) := (s_ldI 5 (s_lt0
  (s_inc 4 1 (s_goto (p_C 0 9 0 <| p_I 1 fun a1 => p_I 2 fun a2 => p_I 3 fun a3 => p_I 4 fun a4 => p_E fun s => K55 s a1 a2 a3 a4)))
  (s_ldI 5 (s_gt0
    (s_ldA 0 (s_getRc 9 11 40 0 (s_ldI 5 (s_ic 1 (s_bin (fun x y => x - y) (s_lald 40 20 (s_ldI 3 (s_i2l (s_lbin (fun x y => x * y) (s_lc 10 (s_ldivr (fun x y => x / y) (s_goto (p_C 0 9 0 <| p_I 1 fun a1 => p_I 2 fun a2 => p_I 3 fun a3 => p_I 4 fun a4 => p_I 5 fun a5 => q_L fun b0 => p_E fun s => K96 s a1 a2 a3 a4 a5 b0)))))))))))))
    (s_lc 0 (p_C 0 9 0 <| p_I 1 fun a1 => p_I 2 fun a2 => p_I 3 fun a3 => p_I 4 fun a4 => p_I 5 fun a5 => q_L fun b0 => p_E fun s => K96 s a1 a2 a3 a4 a5 b0))))))
set_option maxRecDepth 20000 in
theorem e_x9_few_b66 (K55 : Sg → Int32 → Int32 → Int32 → Int32 → Option (Sg × Int64)) (K96 : Sg → Int32 → Int32 → Int32 → Int32 → Int32 → Int64 → Option (Sg × Int64)) (s : Sg) (l1 : Int32) (l2 : Int32) (l3 : Int32) (l4 : Int32) (l5 : Int32) : x9_few_b66_G K55 K96 s l1 l2 l3 l4 l5 = t_x9_few_b66 K55 K96 [some (.inr (.inr (some (9, 0)))), some (.inl l1), some (.inl l2), some (.inl l3), some (.inl l4), some (.inl l5), none, none] [] s := rfl
noncomputable def x9_few_b55_G (K66 : Sg → Int32 → Int32 → Int32 → Int32 → Int32 → Option (Sg × Int64)) (K143 : Sg → Int32 → Int64 → Int32 → Option (Sg × Int64)) (s : Sg) (l1 : Int32) (l2 : Int32) (l3 : Int32) (l4 : Int32) : Option (Sg × Int64) :=
  gif ((l4 : Int32) < l2) (
    K66 s l1 l2 l3 l4 (l1 - 1))
  (
    K143 s l1 0 0)
noncomputable def x9_few_b55 : Nat → Sg → Int32 → Int32 → Int32 → Int32 → Option (Sg × Int64)
  | 0 => fun _ _ _ _ _ => none
  | n + 1 => x9_few_b55_G (x9_few_b66 (x9_few_b55 n) FU) (x9_few_b143 FU)
noncomputable def t_x9_few_b55 (K66 : Sg → Int32 → Int32 → Int32 → Int32 → Int32 → Option (Sg × Int64)) (K143 : Sg → Int32 → Int64 → Int32 → Option (Sg × Int64)) : Bk (Sg × Int64) := (s_ldI 4 (s_ldI 2 (s_clt
  (s_ldI 1 (s_ic 1 (s_bin (fun x y => x - y) (s_stI 5 (p_C 0 9 0 <| p_I 1 fun a1 => p_I 2 fun a2 => p_I 3 fun a3 => p_I 4 fun a4 => p_I 5 fun a5 => p_E fun s => K66 s a1 a2 a3 a4 a5)))))
  (s_lc 0 (s_stL 4 (s_ic 0 (s_stI 6 (p_C 0 9 0 <| p_I 1 fun a1 => p_L 4 fun a4 => p_I 6 fun a6 => p_E fun s => K143 s a1 a4 a6))))))))
set_option maxRecDepth 20000 in
theorem e_x9_few_b55 (K66 : Sg → Int32 → Int32 → Int32 → Int32 → Int32 → Option (Sg × Int64)) (K143 : Sg → Int32 → Int64 → Int32 → Option (Sg × Int64)) (s : Sg) (l1 : Int32) (l2 : Int32) (l3 : Int32) (l4 : Int32) : x9_few_b55_G K66 K143 s l1 l2 l3 l4 = t_x9_few_b55 K66 K143 [some (.inr (.inr (some (9, 0)))), some (.inl l1), some (.inl l2), some (.inl l3), some (.inl l4), none, none, none] [] s := rfl
noncomputable def x9_few_G (K55 : Sg → Int32 → Int32 → Int32 → Int32 → Option (Sg × Int64)) (s : Sg) (l1 : Int32) (l2 : Int32) : Option (Sg × Int64) :=
  gif ((l1 : Int32) < 1) (
    some (s, (-1)))
  (
    gif ((20 : Int32) < l1) (
      some (s, (-1)))
    (
      gif ((l2 : Int32) < 0) (
        some (s, (-1)))
      (
        gif ((99 : Int32) < l2) (
          some (s, (-1)))
        (
          let s1 := g_fillL s 40 0 0
          gd (inb 0 20) (
          let s2 := wL s1 40 0 (ix 0) 1000000000000
          gd (inb 1 4) (
          K55 s2 l1 l2 (rI s2 15 0 (ix 1)) 0))))))
noncomputable def x9_few : Sg → Int32 → Int32 → Option (Sg × Int64) := x9_few_G (x9_few_b55 FU)
noncomputable def t_x9_few (K55 : Sg → Int32 → Int32 → Int32 → Int32 → Option (Sg × Int64)) : Bk (Sg × Int64) := (s_ldI 1 (s_ic 1 (s_clt
  (s_lc (-1) (s_lret retL))
  (s_ldI 1 (s_ic 20 (s_cgt
    (s_lc (-1) (s_lret retL))
    (s_ldI 2 (s_lt0
      (s_lc (-1) (s_lret retL))
      (s_ldI 2 (s_ic 99 (s_cgt
        (s_lc (-1) (s_lret retL))
        (s_ldA 0 (s_getRc 9 11 40 0 (s_lc 0 (s_fillL 40 (s_ldA 0 (s_getRc 9 11 40 0 (s_ic 0 (s_lc 1000000000000 (s_last 40 20 (s_ldA 0 (s_getRc 9 1 1 0 (s_getRv 1 3 15 (s_ic 1 (s_iald 15 4 (s_stI 3 (s_ic 0 (s_stI 4 (p_C 0 9 0 <| p_I 1 fun a1 => p_I 2 fun a2 => p_I 3 fun a3 => p_I 4 fun a4 => p_E fun s => K55 s a1 a2 a3 a4)))))))))))))))))))))))))))))
set_option maxRecDepth 20000 in
theorem e_x9_few (K55 : Sg → Int32 → Int32 → Int32 → Int32 → Option (Sg × Int64)) (s : Sg) (l1 : Int32) (l2 : Int32) : x9_few_G K55 s l1 l2 = t_x9_few K55 [some (.inr (.inr (some (9, 0)))), some (.inl l1), some (.inl l2), none, none, none, none, none] [] s := rfl
noncomputable def x9_compare_G (c_x1_canForce : Sg → Nat → Int32 → Option (Sg × Int32)) (c_x1_lawOf : Sg → Nat → Int32 → Option (Sg × Nat)) (c_x9_layPaper : Sg → Nat → Nat → Option Sg) (c_x5_bestCosts : Sg → Option (Sg × Int32)) (s : Sg) (l1 : Int32) : Option (Sg × Int32) :=
  (c_x1_canForce s 0 l1).bind fun q1 => (
  gif ((q1.2 : Int32) = 0) (
    some (q1.1, (-1)))
  (
    (c_x1_lawOf q1.1 0 l1).bind fun q2 => (
    match q2.2 with
    | 0 => (
      (c_x9_layPaper q2.1 0 0).bind fun s4 => (
      (c_x5_bestCosts s4).bind fun q5 => (
      some (q5.1, q5.2))))
    | t3 + 1 => (
      (c_x9_layPaper q2.1 0 (t3 + 1)).bind fun s6 => (
      (c_x5_bestCosts s6).bind fun q7 => (
      some (q7.1, q7.2)))))))
noncomputable def x9_compare : Sg → Int32 → Option (Sg × Int32) := x9_compare_G x1_canForce x1_lawOf x9_layPaper x5_bestCosts
noncomputable def t_x9_compare (c_x1_canForce : Sg → Nat → Int32 → Option (Sg × Int32)) (c_x1_lawOf : Sg → Nat → Int32 → Option (Sg × Nat)) (c_x9_layPaper : Sg → Nat → Nat → Option Sg) (c_x5_bestCosts : Sg → Option (Sg × Int32)) : Bk (Sg × Int32) := (s_ldA 0 (s_getRc 9 1 1 0 (s_ldI 1 (s_call (FW_x1_canForce c_x1_canForce) 2 (s_eq0
  (s_ic (-1) (s_iret retI))
  (s_ldA 0 (s_ldA 0 (s_getRc 9 1 1 0 (s_ldA 0 (s_getRc 9 1 1 0 (s_ldI 1 (s_call (FW_x1_lawOf c_x1_lawOf) 2 (s_call (FW_x9_layPaper c_x9_layPaper) 3 (s_ldA 0 (s_getRc 9 10 5 0 (s_call (FW_x5_bestCosts c_x5_bestCosts) 1 (s_iret retI)))))))))))))))))
set_option maxRecDepth 20000 in
theorem e_x9_compare (c_x1_canForce : Sg → Nat → Int32 → Option (Sg × Int32)) (c_x1_lawOf : Sg → Nat → Int32 → Option (Sg × Nat)) (c_x9_layPaper : Sg → Nat → Nat → Option Sg) (c_x5_bestCosts : Sg → Option (Sg × Int32)) (s : Sg) (l1 : Int32) : x9_compare_G c_x1_canForce c_x1_lawOf c_x9_layPaper c_x5_bestCosts s l1 = t_x9_compare c_x1_canForce c_x1_lawOf c_x9_layPaper c_x5_bestCosts [some (.inr (.inr (some (9, 0)))), some (.inl l1)] [] s := rfl
noncomputable def x9_nextDraw_G (s : Sg) (l0 : Int32) : Option (Sg × Int32) :=
  gd (¬ 1000003 = (0 : Int32)) (
  some (s, (g_rem ((l0 * 1103) + 12345) 1000003)))
noncomputable def x9_nextDraw : Sg → Int32 → Option (Sg × Int32) := x9_nextDraw_G
noncomputable def t_x9_nextDraw : Bk (Sg × Int32) := (s_ldI 0 (s_ic 1103 (s_bin (fun x y => x * y) (s_ic 12345 (s_bin (fun x y => x + y) (s_ic 1000003 (s_div g_rem (s_iret retI))))))))
set_option maxRecDepth 20000 in
theorem e_x9_nextDraw (s : Sg) (l0 : Int32) : x9_nextDraw_G s l0 = t_x9_nextDraw [some (.inl l0)] [] s := rfl
noncomputable def x9_weeks_b64_G (K64 : Sg → Int32 → Int32 → Int32 → Int32 → Option (Sg × Int32)) (c_x9_nextDraw : Sg → Int32 → Option (Sg × Int32)) (c_x1_carryOutIfItCanBe : Sg → Nat → Int32 → Int32 → Int32 → Option Sg) (c_x7_howManyFit : Sg → Nat → Option (Sg × Int32)) (c_x9_answer : Sg → Int32 → Option (Sg × Int32)) (s : Sg) (l2 : Int32) (l3 : Int32) (l4 : Int32) (l5 : Int32) : Option (Sg × Int32) :=
  gif ((l5 : Int32) < l2) (
    gd (inb 0 4) (
    gif (((rI s 15 2 (ix 0)) : Int32) < 999) (
      (c_x9_nextDraw s l3).bind fun q1 => (
      gd (¬ (g_max 1 (rI q1.1 1 2 7)) = (0 : Int32)) (
      (c_x9_nextDraw q1.1 q1.2).bind fun q2 => (
      gd (¬ 20 = (0 : Int32)) (
      (c_x9_nextDraw q2.1 q2.2).bind fun q3 => (
      gd (¬ 4 = (0 : Int32)) (
      (c_x1_carryOutIfItCanBe q3.1 2 (g_max 0 ((g_rem q3.2 4) - 1)) (g_rem q1.2 (g_max 1 (rI q1.1 1 2 7))) ((g_rem q2.2 20) + 1)).bind fun s4 => (
      (c_x7_howManyFit s4 2).bind fun q5 => (
      gd (inb 0 4) (
      gd (inb 0 4) (
      let s6 := wI q5.1 15 2 (ix 0) ((rI q5.1 15 2 (ix 0)) + 1)
      K64 s6 l2 q3.2 (l4 + q5.2) (l5 + 1))))))))))))
    (
      (c_x9_answer s l4).bind fun q7 => (
      some (q7.1, q7.2)))))
  (
    (c_x9_answer s l4).bind fun q8 => (
    some (q8.1, q8.2)))
noncomputable def x9_weeks_b64 : Nat → Sg → Int32 → Int32 → Int32 → Int32 → Option (Sg × Int32)
  | 0 => fun _ _ _ _ _ => none
  | n + 1 => x9_weeks_b64_G (x9_weeks_b64 n) x9_nextDraw x1_carryOutIfItCanBe x7_howManyFit x9_answer
noncomputable def t_x9_weeks_b64 (K64 : Sg → Int32 → Int32 → Int32 → Int32 → Option (Sg × Int32)) (c_x9_nextDraw : Sg → Int32 → Option (Sg × Int32)) (c_x1_carryOutIfItCanBe : Sg → Nat → Int32 → Int32 → Int32 → Option Sg) (c_x7_howManyFit : Sg → Nat → Option (Sg × Int32)) (c_x9_answer : Sg → Int32 → Option (Sg × Int32)) : Bk (Sg × Int32) := (s_ldI 5 (s_ldI 2 (s_clt
  (s_ldA 0 (s_getRc 9 3 1 2 (s_getRv 1 3 15 (s_ic 0 (s_iald 15 4 (s_ic 999 (s_clt
    (s_ldI 3 (s_call (FW_x9_nextDraw c_x9_nextDraw) 1 (s_stI 3 (s_ldI 3 (s_ic 1 (s_ldA 0 (s_getRc 9 3 1 2 (s_getI 1 7 (s_m2 g_max (s_div g_rem (s_stI 6 (s_ldI 3 (s_call (FW_x9_nextDraw c_x9_nextDraw) 1 (s_stI 3 (s_ldI 3 (s_ic 20 (s_div g_rem (s_ic 1 (s_bin (fun x y => x + y) (s_stI 7 (s_ldI 3 (s_call (FW_x9_nextDraw c_x9_nextDraw) 1 (s_stI 3 (s_ldA 0 (s_getRc 9 3 1 2 (s_ic 0 (s_ldI 3 (s_ic 4 (s_div g_rem (s_ic 1 (s_bin (fun x y => x - y) (s_m2 g_max (s_ldI 6 (s_ldI 7 (s_call (FW_x1_carryOutIfItCanBe c_x1_carryOutIfItCanBe) 4 (s_ldI 4 (s_ldA 0 (s_getRc 9 9 7 0 (s_ldA 0 (s_getRc 9 3 1 2 (s_call (FW_x7_howManyFit c_x7_howManyFit) 2 (s_bin (fun x y => x + y) (s_stI 4 (s_ldA 0 (s_getRc 9 3 1 2 (s_getRv 1 3 15 (s_ic 0 (s_dup2 (s_iald 15 4 (s_ic 1 (s_bin (fun x y => x + y) (s_iast 15 4 (s_inc 5 1 (s_goto (p_C 0 9 0 <| p_I 2 fun a2 => p_I 3 fun a3 => p_I 4 fun a4 => p_I 5 fun a5 => p_E fun s => K64 s a2 a3 a4 a5)))))))))))))))))))))))))))))))))))))))))))))))))))))))
    (s_ldA 0 (s_ldI 4 (s_call (FW_x9_answer c_x9_answer) 2 (s_iret retI)))))))))))
  (s_ldA 0 (s_ldI 4 (s_call (FW_x9_answer c_x9_answer) 2 (s_iret retI)))))))
set_option maxRecDepth 20000 in
theorem e_x9_weeks_b64 (K64 : Sg → Int32 → Int32 → Int32 → Int32 → Option (Sg × Int32)) (c_x9_nextDraw : Sg → Int32 → Option (Sg × Int32)) (c_x1_carryOutIfItCanBe : Sg → Nat → Int32 → Int32 → Int32 → Option Sg) (c_x7_howManyFit : Sg → Nat → Option (Sg × Int32)) (c_x9_answer : Sg → Int32 → Option (Sg × Int32)) (s : Sg) (l2 : Int32) (l3 : Int32) (l4 : Int32) (l5 : Int32) : x9_weeks_b64_G K64 c_x9_nextDraw c_x1_carryOutIfItCanBe c_x7_howManyFit c_x9_answer s l2 l3 l4 l5 = t_x9_weeks_b64 K64 c_x9_nextDraw c_x1_carryOutIfItCanBe c_x7_howManyFit c_x9_answer [some (.inr (.inr (some (9, 0)))), none, some (.inl l2), some (.inl l3), some (.inl l4), some (.inl l5), none, none] [] s := rfl
noncomputable def x9_weeks_G (K64 : Sg → Int32 → Int32 → Int32 → Int32 → Option (Sg × Int32)) (c_x9_refuse : Sg → Int32 → Option (Sg × Int32)) (c_x1_copyFrom : Sg → Nat → Nat → Option Sg) (s : Sg) (l1 : Int32) (l2 : Int32) : Option (Sg × Int32) :=
  gif ((l1 : Int32) < 0) (
    (c_x9_refuse s (-1)).bind fun q1 => (
    some (q1.1, q1.2)))
  (
    gif ((1000000 : Int32) < l1) (
      (c_x9_refuse s (-1)).bind fun q2 => (
      some (q2.1, q2.2)))
    (
      gif ((l2 : Int32) < 1) (
        (c_x9_refuse s (-1)).bind fun q3 => (
        some (q3.1, q3.2)))
      (
        gif ((60 : Int32) < l2) (
          (c_x9_refuse s (-1)).bind fun q4 => (
          some (q4.1, q4.2)))
        (
          gif (((rI s 1 0 7) : Int32) = 0) (
            (c_x9_refuse s (-3)).bind fun q5 => (
            some (q5.1, q5.2)))
          (
            (c_x1_copyFrom s 2 0).bind fun s6 => (
            K64 s6 l2 l1 0 0))))))
noncomputable def x9_weeks : Sg → Int32 → Int32 → Option (Sg × Int32) := x9_weeks_G (x9_weeks_b64 FU) x9_refuse x1_copyFrom
noncomputable def t_x9_weeks (K64 : Sg → Int32 → Int32 → Int32 → Int32 → Option (Sg × Int32)) (c_x9_refuse : Sg → Int32 → Option (Sg × Int32)) (c_x1_copyFrom : Sg → Nat → Nat → Option Sg) : Bk (Sg × Int32) := (s_ldI 1 (s_lt0
  (s_ldA 0 (s_ic (-1) (s_call (FW_x9_refuse c_x9_refuse) 2 (s_iret retI))))
  (s_ldI 1 (s_ic 1000000 (s_cgt
    (s_ldA 0 (s_ic (-1) (s_call (FW_x9_refuse c_x9_refuse) 2 (s_iret retI))))
    (s_ldI 2 (s_ic 1 (s_clt
      (s_ldA 0 (s_ic (-1) (s_call (FW_x9_refuse c_x9_refuse) 2 (s_iret retI))))
      (s_ldI 2 (s_ic 60 (s_cgt
        (s_ldA 0 (s_ic (-1) (s_call (FW_x9_refuse c_x9_refuse) 2 (s_iret retI))))
        (s_ldA 0 (s_getRc 9 1 1 0 (s_getI 1 7 (s_eq0
          (s_ldA 0 (s_ic (-3) (s_call (FW_x9_refuse c_x9_refuse) 2 (s_iret retI))))
          (s_ldA 0 (s_getRc 9 3 1 2 (s_ldA 0 (s_getRc 9 1 1 0 (s_call (FW_x1_copyFrom c_x1_copyFrom) 2 (s_ldI 1 (s_stI 3 (s_ic 0 (s_stI 4 (s_ic 0 (s_stI 5 (p_C 0 9 0 <| p_I 2 fun a2 => p_I 3 fun a3 => p_I 4 fun a4 => p_I 5 fun a5 => p_E fun s => K64 s a2 a3 a4 a5)))))))))))))))))))))))))))
set_option maxRecDepth 20000 in
theorem e_x9_weeks (K64 : Sg → Int32 → Int32 → Int32 → Int32 → Option (Sg × Int32)) (c_x9_refuse : Sg → Int32 → Option (Sg × Int32)) (c_x1_copyFrom : Sg → Nat → Nat → Option Sg) (s : Sg) (l1 : Int32) (l2 : Int32) : x9_weeks_G K64 c_x9_refuse c_x1_copyFrom s l1 l2 = t_x9_weeks K64 c_x9_refuse c_x1_copyFrom [some (.inr (.inr (some (9, 0)))), some (.inl l1), some (.inl l2), none, none, none, none, none] [] s := rfl
noncomputable def x9_drawn_G (c_x1_has : Sg → Nat → Int32 → Option (Sg × Int32)) (c_x1_endsAfter : Sg → Nat → Int32 → Option (Sg × Int32)) (c_x1_isSplit : Sg → Nat → Int32 → Option (Sg × Int32)) (s : Sg) (l1 : Int32) (l2 : Int32) : Option (Sg × Int32) :=
  (c_x1_has s 2 l1).bind fun q1 => (
  gif ((q1.2 : Int32) = 0) (
    some (q1.1, (-1)))
  (
    gif ((l2 : Int32) = 0) (
      gd (inb l1 12) (
      some (q1.1, (rI q1.1 12 2 (ix l1)))))
    (
    gif ((l2 : Int32) = 1) (
      (c_x1_endsAfter q1.1 2 l1).bind fun q2 => (
      gif ((q2.2 : Int32) = 0) (
        some (q2.1, 0))
      (
        some (q2.1, 1))))
    (
    gif ((l2 : Int32) = 2) (
      (c_x1_isSplit q1.1 2 l1).bind fun q3 => (
      gif ((q3.2 : Int32) = 0) (
        some (q3.1, 0))
      (
        some (q3.1, 1))))
    (
      some (q1.1, (-1)))))))
noncomputable def x9_drawn : Sg → Int32 → Int32 → Option (Sg × Int32) := x9_drawn_G x1_has x1_endsAfter x1_isSplit
noncomputable def t_x9_drawn (c_x1_has : Sg → Nat → Int32 → Option (Sg × Int32)) (c_x1_endsAfter : Sg → Nat → Int32 → Option (Sg × Int32)) (c_x1_isSplit : Sg → Nat → Int32 → Option (Sg × Int32)) : Bk (Sg × Int32) := (s_ldA 0 (s_getRc 9 3 1 2 (s_ldI 1 (s_call (FW_x1_has c_x1_has) 2 (s_eq0
  (s_ic (-1) (s_iret retI))
  (s_ldI 2 (s_sw [(0, (s_ldA 0 (s_getRc 9 3 1 2 (s_getRv 1 0 12 (s_ldI 1 (s_iald 12 12 (s_iret retI))))))),
    (1, (s_ldA 0 (s_getRc 9 3 1 2 (s_ldI 1 (s_call (FW_x1_endsAfter c_x1_endsAfter) 2 (s_eq0
      (s_ic 0 (s_iret retI))
      (s_ic 1 (s_goto (s_iret retI))))))))),
    (2, (s_ldA 0 (s_getRc 9 3 1 2 (s_ldI 1 (s_call (FW_x1_isSplit c_x1_isSplit) 2 (s_eq0
      (s_ic 0 (s_iret retI))
      (s_ic 1 (s_goto (s_iret retI)))))))))]
    (s_ic (-1) (s_iret retI)))))))))
set_option maxRecDepth 20000 in
theorem e_x9_drawn (c_x1_has : Sg → Nat → Int32 → Option (Sg × Int32)) (c_x1_endsAfter : Sg → Nat → Int32 → Option (Sg × Int32)) (c_x1_isSplit : Sg → Nat → Int32 → Option (Sg × Int32)) (s : Sg) (l1 : Int32) (l2 : Int32) : x9_drawn_G c_x1_has c_x1_endsAfter c_x1_isSplit s l1 l2 = t_x9_drawn c_x1_has c_x1_endsAfter c_x1_isSplit [some (.inr (.inr (some (9, 0)))), some (.inl l1), some (.inl l2)] [] s := rfl
