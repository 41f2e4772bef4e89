/-! THE START: the classes, the arrays, the statics; the law from its entry -/
theorem lwT_1 {w : Cond} (h : w ∈ tables_1_1) : w ∈ lw_tbl := (List.mem_append_right _ (List.mem_append_left _ h))
theorem lwT_2 {w : Cond} (h : w ∈ tables_1_2) : w ∈ lw_tbl := (List.mem_append_right _ (List.mem_append_right _ (List.mem_append_left _ h)))
theorem lwT_3 {w : Cond} (h : w ∈ tables_1_3) : w ∈ lw_tbl := (List.mem_append_right _ (List.mem_append_right _ (List.mem_append_right _ (List.mem_append_left _ h))))
theorem lwT_4 {w : Cond} (h : w ∈ tables_1_4) : w ∈ lw_tbl := (List.mem_append_right _ (List.mem_append_right _ (List.mem_append_right _ (List.mem_append_right _ (List.mem_append_left _ h)))))
theorem lwT_5 {w : Cond} (h : w ∈ tables_1_5) : w ∈ lw_tbl := (List.mem_append_right _ (List.mem_append_right _ (List.mem_append_right _ (List.mem_append_right _ (List.mem_append_right _ (List.mem_append_left _ h))))))
theorem lwT_6 {w : Cond} (h : w ∈ tables_1_6) : w ∈ lw_tbl := (List.mem_append_right _ (List.mem_append_right _ (List.mem_append_right _ (List.mem_append_right _ (List.mem_append_right _ (List.mem_append_right _ (List.mem_append_left _ h)))))))
theorem lwT_7 {w : Cond} (h : w ∈ tables_1_7) : w ∈ lw_tbl := (List.mem_append_right _ (List.mem_append_right _ (List.mem_append_right _ (List.mem_append_right _ (List.mem_append_right _ (List.mem_append_right _ (List.mem_append_right _ (List.mem_append_left _ h))))))))
theorem lwT_8 {w : Cond} (h : w ∈ tables_1_8) : w ∈ lw_tbl := (List.mem_append_right _ (List.mem_append_right _ (List.mem_append_right _ (List.mem_append_right _ (List.mem_append_right _ (List.mem_append_right _ (List.mem_append_right _ (List.mem_append_right _ (h)))))))))
theorem st_arr {s : State} {args : Array Value} {ty : FieldType} (h : (Cond.arrayClass ty).before args s = true) : ∃ cA, ArrOfT s cA ty ∧ s.vm.findClass ("[" ++ ty.toString) = some cA := by
  obtain ⟨cA, kA, comp, h1, h2, h3⟩ := Cond.arrayClass_spec h
  exact ⟨cA, fun n z => ⟨fun k h => (by cases h), kA, h2, comp, h3⟩, h1⟩
theorem st_obj {s : State} {args : Array Value} {C : String} (h : (Cond.arrayOver (.object C)).before args s = true) : ∃ cA, ArrOfT s cA (.object C) ∧ va_RA s cA (.object C) := by
  obtain ⟨comp, c, k, h1, h2, h3, h4, h5⟩ := Cond.arrayOver_spec h
  exact ⟨c, fun n z => ⟨fun k h => (by cases h), k, h3, comp, h4⟩, k, comp, h3, h4, h1, h5⟩
theorem st_two {s : State} (h : cn_AI s) : ∃ cA, ArrOfT s cA (.array .int) ∧ s.vm.findClass ("[" ++ (FieldType.array .int).toString) = some cA := by
  obtain ⟨comp, c, k, h1, h2, h3, h4, h5⟩ := arrayOverA_spec h
  exact ⟨c, fun n z => ⟨fun k h => (by cases h), k, h3, comp, h4⟩, h5⟩
theorem wi1_28 : (Cond.instantiable "GalleyRoom$Desk" (9 : Nat)) ∈ lwG := lwG_1 (List.mem_of_getElem? (i := 28) rfl) rfl
theorem wi1_34 : (Cond.instantiable "GalleyRoom$Galley" (13 : Nat)) ∈ lwG := lwG_1 (List.mem_of_getElem? (i := 34) rfl) rfl
theorem wi1_133 : (Cond.instantiable "GalleyRoom$Line" (9 : Nat)) ∈ lwG := lwG_1 (List.mem_of_getElem? (i := 133) rfl) rfl
theorem wi1_105 : (Cond.instantiable "GalleyRoom$Log" (4 : Nat)) ∈ lwG := lwG_1 (List.mem_of_getElem? (i := 105) rfl) rfl
theorem wi1_139 : (Cond.instantiable "GalleyRoom$Machine" (2 : Nat)) ∈ lwG := lwG_1 (List.mem_of_getElem? (i := 139) rfl) rfl
theorem wi2_99 : (Cond.instantiable "GalleyRoom$Paper" (6 : Nat)) ∈ lwG := lwG_2 (List.mem_of_getElem? (i := 99) rfl) rfl
theorem wi2_10 : (Cond.instantiable "GalleyRoom$Reader" (7 : Nat)) ∈ lwG := lwG_2 (List.mem_of_getElem? (i := 10) rfl) rfl
theorem wi1_125 : (Cond.instantiable "GalleyRoom$Sheet" (5 : Nat)) ∈ lwG := lwG_1 (List.mem_of_getElem? (i := 125) rfl) rfl
theorem wi2_16 : (Cond.instantiable "GalleyRoom$Text" (9 : Nat)) ∈ lwG := lwG_2 (List.mem_of_getElem? (i := 16) rfl) rfl
theorem wi1_20 : (Cond.instantiable "GalleyRoom" (17 : Nat)) ∈ lwG := lwG_1 (List.mem_of_getElem? (i := 20) rfl) rfl
theorem wi5_91 : (Cond.instantiable "GalleyRoomModel" (68 : Nat)) ∈ lwG := lwG_5 (List.mem_of_getElem? (i := 91) rfl) rfl
theorem wi1_103 : (Cond.arrayClass Jvm.ClassFile.FieldType.int) ∈ lwG := lwG_1 (List.mem_of_getElem? (i := 103) rfl) rfl
theorem wi2_73 : (Cond.arrayClass Jvm.ClassFile.FieldType.byte) ∈ lwG := lwG_2 (List.mem_of_getElem? (i := 73) rfl) rfl
theorem wi2_72 : (Cond.arrayClass Jvm.ClassFile.FieldType.boolean) ∈ lwG := lwG_2 (List.mem_of_getElem? (i := 72) rfl) rfl
theorem wi1_153 : (Cond.arrayClass Jvm.ClassFile.FieldType.long) ∈ lwG := lwG_1 (List.mem_of_getElem? (i := 153) rfl) rfl
theorem wi1_19 : (Cond.classLink "GalleyRoomLaw" (7 : Nat) "GalleyRoom") ∈ lwG := lwG_1 (List.mem_of_getElem? (i := 19) rfl) rfl
theorem wi1_1 : (Cond.initialized "GalleyRoom") ∈ lwG := lwG_1 (List.mem_of_getElem? (i := 1) rfl) rfl
theorem wi1_21 : (Cond.methodLink "GalleyRoomLaw" (9 : Nat) ({ cls := "GalleyRoom", name := "<init>", desc := "()V" } : Jvm.MethodName)) ∈ lwG := lwG_1 (List.mem_of_getElem? (i := 21) rfl) rfl
theorem wi1_23 : (Cond.code ({ cls := "GalleyRoom", name := "<init>", desc := "()V" } : Jvm.MethodName) prog_1_method_1_code (2 : Nat) (Option.none : Option Jvm.ClassFile.FieldType)) ∈ lwG := lwG_1 (List.mem_of_getElem? (i := 23) rfl) rfl
theorem wi1_22 : (Cond.instanceMethod ({ cls := "GalleyRoom", name := "<init>", desc := "()V" } : Jvm.MethodName)) ∈ lwG := lwG_1 (List.mem_of_getElem? (i := 22) rfl) rfl
theorem wi5_90 : (Cond.classLink "GalleyRoomLaw" (10 : Nat) "GalleyRoomModel") ∈ lwG := lwG_5 (List.mem_of_getElem? (i := 90) rfl) rfl
theorem wi1_12 : (Cond.initialized "GalleyRoomModel") ∈ lwG := lwG_1 (List.mem_of_getElem? (i := 12) rfl) rfl
theorem wi5_92 : (Cond.methodLink "GalleyRoomLaw" (12 : Nat) ({ cls := "GalleyRoomModel", name := "<init>", desc := "()V" } : Jvm.MethodName)) ∈ lwG := lwG_5 (List.mem_of_getElem? (i := 92) rfl) rfl
theorem wi5_94 : (Cond.code ({ cls := "GalleyRoomModel", name := "<init>", desc := "()V" } : Jvm.MethodName) prog_12_method_9_code (1 : Nat) (Option.none : Option Jvm.ClassFile.FieldType)) ∈ lwG := lwG_5 (List.mem_of_getElem? (i := 94) rfl) rfl
theorem wi5_93 : (Cond.instanceMethod ({ cls := "GalleyRoomModel", name := "<init>", desc := "()V" } : Jvm.MethodName)) ∈ lwG := lwG_5 (List.mem_of_getElem? (i := 93) rfl) rfl
theorem st_K {s : State} {args : Array Value} (hG : ∀ x ∈ lwG, x.before args s = true) (hN : cn_N true s) : ∃ (D : va_G) (cA : Nat → ClassId), ∀ (B : Nat) (ex : Nat → Nat), va_K D vwCl (g_tys (wJ D cA B ex)) s := by
  obtain ⟨c0, i0, h0⟩ := u_known (C := RX0) (T := TX0) (N := 9) (n := 9) hG inX0 (hG _ wi1_28)
  obtain ⟨c1, i1, h1⟩ := u_known (C := RX1) (T := TX1) (N := 13) (n := 13) hG inX1 (hG _ wi1_34)
  obtain ⟨c2, i2, h2⟩ := u_known (C := RX2) (T := TX2) (N := 9) (n := 9) hG inX2 (hG _ wi1_133)
  obtain ⟨c3, i3, h3⟩ := u_known (C := RX3) (T := TX3) (N := 4) (n := 4) hG inX3 (hG _ wi1_105)
  obtain ⟨c4, i4, h4⟩ := u_known (C := RX4) (T := TX4) (N := 2) (n := 2) hG inX4 (hG _ wi1_139)
  obtain ⟨c5, i5, h5⟩ := u_known (C := RX5) (T := TX5) (N := 6) (n := 6) hG inX5 (hG _ wi2_99)
  obtain ⟨c6, i6, h6⟩ := u_known (C := RX6) (T := TX6) (N := 7) (n := 7) hG inX6 (hG _ wi2_10)
  obtain ⟨c7, i7, h7⟩ := u_known (C := RX7) (T := TX7) (N := 5) (n := 5) hG inX7 (hG _ wi1_125)
  obtain ⟨c8, i8, h8⟩ := u_known (C := RX8) (T := TX8) (N := 9) (n := 9) hG inX8 (hG _ wi2_16)
  obtain ⟨c9, i9, h9⟩ := u_known (C := RX9) (T := TX9) (N := 17) (n := 17) hG inX9 (hG _ wi1_20)
  obtain ⟨c10, i10, h10⟩ := u_known (C := RX10) (T := TX10) (N := 68) (n := 68) hG inX10 (hG _ wi5_91)
  obtain ⟨a0, p0, q0⟩ := st_arr (hG _ wi1_103)
  obtain ⟨a1, p1, q1⟩ := st_arr (hG _ wi2_73)
  obtain ⟨a2, p2, q2⟩ := st_arr (hG _ wi2_72)
  obtain ⟨a3, p3, q3⟩ := st_arr (hG _ wi1_153)
  obtain ⟨a4, p4, q4⟩ := st_obj (args := #[]) (hN rfl).2.1
  obtain ⟨a5, p5, q5⟩ := st_obj (args := #[]) (hN rfl).2.2.1
  obtain ⟨a6, p6, q6⟩ := st_two (hN rfl).2.2.2
  refine ⟨(fun k => nth [c0, c1, c2, c3, c4, c5, c6, c7, c8, c9, c10] k c0, fun k => nth [i0, i1, i2, i3, i4, i5, i6, i7, i8, i9, i10] k i0), fun k => nth [a0, a1, a2, a3, a4, a5, a6] k a0, fun B ex => ⟨fun k q hq => ?_, fun k q hq => ?_⟩⟩
  · match k, hq with
    | 0, hq => cases hq; exact h0
    | 1, hq => cases hq; exact h1
    | 2, hq => cases hq; exact h2
    | 3, hq => cases hq; exact h3
    | 4, hq => cases hq; exact h4
    | 5, hq => cases hq; exact h5
    | 6, hq => cases hq; exact h6
    | 7, hq => cases hq; exact h7
    | 8, hq => cases hq; exact h8
    | 9, hq => cases hq; exact h9
    | 10, hq => cases hq; exact h10
    | k + 11, hq => simp [vwCl] at hq
  · match k, hq with
    | 0, hq => cases hq; exact ⟨p0, q0⟩
    | 1, hq => cases hq; exact ⟨p1, q1⟩
    | 2, hq => cases hq; exact ⟨p2, q2⟩
    | 3, hq => cases hq; exact ⟨p3, q3⟩
    | 4, hq => cases hq; exact ⟨p4, q4⟩
    | 5, hq => cases hq; exact ⟨p5, q5⟩
    | 6, hq => cases hq; exact ⟨p6, q6⟩
    | k + 7, hq => simp [g_tys] at hq
theorem st_T {s : State} {args : Array Value} {A : Nat → Prop} {nm : String} {k : Nat} (harr : (Cond.arrayOf (.static "GalleyRoom" nm "[I") .int).before args s = true) (hlen : (Cond.eq (.length (.static "GalleyRoom" nm "[I")) (.int (Int32.ofNat 4))).before args s = true)
    (hel : ∀ j : Nat, j < 4 → (Cond.eq (.elem (.static "GalleyRoom" nm "[I") (.int (Int32.ofNat j))) (.int (g_xT k j))).before args s = true) (hl : (Cond.laysStatic "GalleyRoom" nm "[I").before args s = true) (hini : (Cond.initialized "GalleyRoom").before args s = true) (hA : ∀ a : Nat, a < s.heap.size → ¬ A a) : ∃ t, g_Zt nm k t A s s.heap ∧ t < s.heap.size := by
  obtain ⟨t, ht, hT⟩ := va_Tof (N := 4) (f := fun j => .int (g_xT k j)) (A := A) (by decide) harr (va_eqt hlen) (fun j hj => va_eqt (hel j hj)) hA
  refine ⟨t, ⟨va_Zref hl hini ht hA, hT⟩, ?_⟩
  obtain ⟨cell, h1, -⟩ := hT
  exact (Array.getElem?_eq_some_iff.mp h1).1
theorem st_el (n : Nat) (hn : n < 138) : (flatC (Jvm.Cond.and given_1 narrow_1))[56 + n]? = some (Cond.eq (.elem (.field (.string "GalleyRoom$Reader" 79) "java/lang/String" "value" "[B") (.int (Int32.ofNat n))) (.int (g_str.getD n 0))) := by
  have : ∀ n, n < 138 → (flatC (Jvm.Cond.and given_1 narrow_1))[56 + n]? = some (Cond.eq (.elem (.field (.string "GalleyRoom$Reader" 79) "java/lang/String" "value" "[B") (.int (Int32.ofNat n))) (.int (g_str.getD n 0))) := by decide +kernel
  exact this n hn
theorem wJ_ext {D : va_G} {cA : Nat → ClassId} {B k i : Nat} {ex : Nat → Nat} (h : 76 ≤ k) : wr (wJ D cA B ex) k i = ex k := by
  show wJr B ex k i = ex k
  unfold wJr
  rw [Nat.ble_eq_true_of_le h]
  rfl
theorem st_Zs {s : State} {b : Nat} (hts : ∀ w ∈ lw_tbl, w.before #[Value.ref b] s = true) (hgv : (Jvm.Cond.and given_1 narrow_1).before #[Value.ref b] s = true) : ∃ ex : Nat → Nat, ∀ (D : va_G) (cA : Nat → ClassId), g_Zs (wJ D cA s.heap.size ex) s s.heap := by
  have hs := flat_of_before _ hgv
  have hA : ∀ a : Nat, a < s.heap.size → ¬ (fun q : Nat => s.heap.size ≤ q) a := fun a h q => absurd h (Nat.not_lt.mpr q)
  obtain ⟨t76, z76, u76⟩ := st_T (k := 76) (nm := "LEAST_TERM") (hs _ (List.mem_of_getElem? (i := 5) rfl)) (hs _ (List.mem_of_getElem? (i := 6) rfl)) (fun j hj => by
    match j, hj with
    | 0, _ => exact (hs _ (List.mem_of_getElem? (i := 7) rfl))
    | 1, _ => exact (hs _ (List.mem_of_getElem? (i := 8) rfl))
    | 2, _ => exact (hs _ (List.mem_of_getElem? (i := 9) rfl))
    | 3, _ => exact (hs _ (List.mem_of_getElem? (i := 10) rfl))
    | j + 4, h => exact absurd h (by omega)) (hts _ (lwT_3 (List.mem_of_getElem? (i := 57) rfl))) (hts _ (lwT_1 (List.mem_of_getElem? (i := 1) rfl))) hA
  obtain ⟨t77, z77, u77⟩ := st_T (k := 77) (nm := "MOST_TERM") (hs _ (List.mem_of_getElem? (i := 12) rfl)) (hs _ (List.mem_of_getElem? (i := 13) rfl)) (fun j hj => by
    match j, hj with
    | 0, _ => exact (hs _ (List.mem_of_getElem? (i := 14) rfl))
    | 1, _ => exact (hs _ (List.mem_of_getElem? (i := 15) rfl))
    | 2, _ => exact (hs _ (List.mem_of_getElem? (i := 16) rfl))
    | 3, _ => exact (hs _ (List.mem_of_getElem? (i := 17) rfl))
    | j + 4, h => exact absurd h (by omega)) (hts _ (lwT_3 (List.mem_of_getElem? (i := 59) rfl))) (hts _ (lwT_1 (List.mem_of_getElem? (i := 1) rfl))) hA
  obtain ⟨t78, z78, u78⟩ := st_T (k := 78) (nm := "TOLD_BY_FACT") (hs _ (List.mem_of_getElem? (i := 24) rfl)) (hs _ (List.mem_of_getElem? (i := 25) rfl)) (fun j hj => by
    match j, hj with
    | 0, _ => exact (hs _ (List.mem_of_getElem? (i := 26) rfl))
    | 1, _ => exact (hs _ (List.mem_of_getElem? (i := 27) rfl))
    | 2, _ => exact (hs _ (List.mem_of_getElem? (i := 28) rfl))
    | 3, _ => exact (hs _ (List.mem_of_getElem? (i := 29) rfl))
    | j + 4, h => exact absurd h (by omega)) (hts _ (lwT_5 (List.mem_of_getElem? (i := 16) rfl))) (hts _ (lwT_1 (List.mem_of_getElem? (i := 1) rfl))) hA
  obtain ⟨adK, adV, hS, hK0⟩ := vk_Sof (N := 1) (tm := fun _ => .string "GalleyRoom$Reader" 79) (len := [g_strN]) (byt := [g_str]) (args := #[Value.ref b]) (s := s) (A := fun q : Nat => s.heap.size ≤ q)
    (fun i hi => by
      have h0 : i = 0 := by omega
      subst h0; decide)
    (fun i hi => (hs _ (List.mem_of_getElem? (i := 52) rfl)))
    (fun i hi => (hs _ (List.mem_of_getElem? (i := 53) rfl)))
    (fun i hi => (hs _ (List.mem_of_getElem? (i := 54) rfl)))
    (fun i hi => by
      have h0 : i = 0 := by omega
      subst h0
      exact (hs _ (List.mem_of_getElem? (i := 55) rfl)))
    (fun i hi j hj => by
      have h0 : i = 0 := by omega
      subst h0
      exact hs _ (List.mem_of_getElem? (st_el j hj)))
    (fun i j hi hj hne => absurd (show i = j by omega) hne) hA
  have hq : va_Zq "jdk/internal/util/Preconditions" "SIOOBE_FORMATTER" "Ljava/util/function/BiFunction;" (fun q : Nat => s.heap.size ≤ q) s s.heap := va_Zqof (hts _ (lwT_3 (List.mem_of_getElem? (i := 134) rfl))) (hts _ (lwT_1 (List.mem_of_getElem? (i := 15) rfl))) (hs _ (List.mem_of_getElem? (i := 19) rfl)) hA
  have hcs : va_Z "java/lang/String" "COMPACT_STRINGS" "Z" (.int 1) (fun q : Nat => s.heap.size ≤ q) s s.heap := va_Zof (hts _ (lwT_3 (List.mem_of_getElem? (i := 118) rfl))) (hts _ (lwT_1 (List.mem_of_getElem? (i := 13) rfl))) (va_eqi (hs _ (List.mem_of_getElem? (i := 18) rfl))) hA
  have hv : ∃ v : Value, v.category = 1 ∧ va_Z "jdk/internal/util/Preconditions" "SIOOBE_FORMATTER" "Ljava/util/function/BiFunction;" v (fun q : Nat => s.heap.size ≤ q) s s.heap := by
    rcases hq with q | ⟨t, q⟩
    · exact ⟨.null, rfl, q⟩
    · exact ⟨.ref t, rfl, q⟩
  obtain ⟨cs, e1, -⟩ := (hS.1 0 (by decide)).1
  have u79 : adK 0 < s.heap.size := (Array.getElem?_eq_some_iff.mp e1).1
  refine ⟨fun k => bif Nat.beq k 76 then t76 else bif Nat.beq k 77 then t77 else bif Nat.beq k 78 then t78 else adK 0, fun D cA => ⟨fun k hk i hi => ?_, z76, z77, z78, ?_, ⟨adV, ⟨fun i hi => ?_, fun i j hi hj _ => by omega⟩⟩, hcs, ?_, ?_, hv⟩⟩
  · rw [wJ_ext hk]
    have hlt : (bif Nat.beq k 76 then t76 else bif Nat.beq k 77 then t77 else bif Nat.beq k 78 then t78 else adK 0) < s.heap.size := by
      cases Nat.beq k 76 with
      | true => exact u76
      | false =>
        cases Nat.beq k 77 with
        | true => exact u77
        | false =>
          cases Nat.beq k 78 with
          | true => exact u78
          | false => exact u79
    exact ⟨hlt, hA _ hlt⟩
  · exact vk_R.of (A := #[Value.ref b]) (hts _ (lwT_3 (List.mem_of_getElem? (i := 108) rfl))) (hK0 0 (by decide))
  · have h0 : i = 0 := by omega
    subst h0
    exact hS.1 0 (by decide)
  · exact va_Nw.of rfl (hts _ (lwT_5 (List.mem_of_getElem? (i := 37) rfl)))
  · exact va_Nw.of rfl (hts _ (lwT_3 (List.mem_of_getElem? (i := 26) rfl)))
section CnRowsZ
variable {M : cn_M} {p : Program} {l : Launch} {e : Env} {R : Room} {s : State} {m : MethodId} {args : Array Value} {below : List Frame} {meth : Method} {c : Code} {w : g_W} {H : Heap} {locs : List Loc} {cells slots a pc : Nat} {lsA : Array Slot} {rest : List Value} {Q : State → Prop} {L : List va_E}
theorem cn_callZ (C : cn_Ctx M p l e R s m args below meth c w) {Mc : cn_M} {y : MethodName} {ci : Nat} {df : List Value} {CS : List va_E}
    (hM : Met l y (Cond.code y (cnB Mc) (cnL Mc) none :: lwG) { frames := cnD Mc, cells := cnC Mc, slots := cnS Mc, locals := 40 * cnD Mc } (va_Pc [.ref (a + L.length)] (fun U => cnH (wD w) U.heap (a + L.length) [.inr (ci, df)] U.heap ∧ va_K (wD w) vwCl (g_tys w) U ∧ g_Zs w U U.heap)) (cn_Qc w (a + L.length) CS) (cnC Mc) (cnS Mc) (fun q => a + L.length ≤ q))
    {e0 : va_E} (he0 : e0 = .inr (ci, df)) (hH : cnH (wD w) s.heap a (L ++ [e0]) H) (ha : a = s.heap.size) (hZ : g_Zs w s s.heap) (hL : ∀ q ∈ locs, a ≤ q.base) {idx : Nat} (hyn : y.name = "<init>")
    (hw : Cond.methodLink (cnO M) idx y ∈ lwG ∧ Cond.code y (cnB Mc) (cnL Mc) none ∈ lwG ∧ Cond.initialized y.cls ∈ lwG ∧ Cond.instanceMethod y ∈ lwG) (hy : y.cls ≠ "java/lang/invoke/MethodHandle" ∧ y.cls ≠ "java/lang/invoke/VarHandle" ∧ (parseMethodDescriptor y.desc).map (fun d => d.parameters.length) = some 0) (hmd : cnD Mc + 1 ≤ cnD M ∧ cnL Mc ≤ 21)
    (hls : lsA.size = cnL M) (hroom : (rest.map fun v => v.category).sum ≤ 8) (hd : decode (cnB M) pc = .ok (.invokespecial idx, 3)) (hcs : cells + cnC Mc ≤ cnC M ∧ slots + cnS Mc ≤ cnS M)
    (kk : ∀ (H1 : Heap) (locs1 : List Loc), cnH (wD w) s.heap a (L ++ CS) H1 → (∀ q ∈ locs1, a ≤ q.base) → W p l e R s m args below meth c H1 locs1 (cells + cnC Mc) (slots + cnS Mc) Q (F0 m (pc + 3) lsA rest)) : W p l e R s m args below meth c H locs cells slots Q (F0 m pc lsA (.ref (a + L.length) :: rest)) := by
  obtain ⟨c1, c2, c3, c4, c5, c6, c7, c8, ⟨c9, c10, c11, c12⟩, c13, c14⟩ := C
  subst he0
  have hG : GoodIn lwG (Cond.code y (cnB Mc) (cnL Mc) none :: lwG) := by
    refine g_goodIn (fun x hx => ?_)
    rcases List.mem_cons.mp hx with rfl | q
    · exact hw.2.1
    · exact q
  have cw := callB_of (R := R) (own := cnO M) (rm := ({ frames := cnD Mc, cells := cnC Mc, slots := cnS Mc, locals := 40 * cnD Mc } : Room)) 0 c7 hG rfl rfl rfl (c7 _ hw.2.2.1) (c7 _ hw.1) hy ⟨by show cnD Mc + 1 ≤ _; omega, by show 8 + (cnL Mc + 11) + 40 * cnD Mc ≤ _; omega⟩
  have hb0 : cnH (wD w) H (a + L.length) [.inr (ci, df)] H := by
    refine ⟨by rw [hH.1, List.length_append]; rfl, fun _ _ => rfl, fun j x hx => ?_⟩
    have := hH.2.2 (L.length + j) x (by rw [List.getElem?_append_right (by omega)]; rw [show L.length + j - L.length = j by omega]; exact hx)
    rw [Nat.add_assoc]
    exact this
  have hz : s.heap.size ≤ H.size := by rw [hH.1, ← ha]; exact Nat.le_add_right _ _
  have hr := va_runI (p := p) (below := below) (meth := meth) (e := e) (locs := locs) (cells := cells) (slots := slots) (g := F0 m pc lsA (.ref (a + L.length) :: rest)) (b := a + L.length) (As := []) (rest := rest) ⟨c1, c2, c3, c6, c7⟩ hM ⟨cw, hyn, c7 _ hw.2.2.2⟩
    ⟨fun A U g mk q => ⟨q.1, q.2.1, va_K.moved (u := U) (U := U.calling g mk A) (Vm.Alike.refl U.vm) q.2.2.1, ⟨q.2.2.2.1, by
      obtain ⟨h1, h2, h3, h4, ⟨adV, h5⟩, h6, n1, n2, v, hc7, h7⟩ := q.2.2.2.2
      have ha := Vm.Alike.refl U.vm
      exact ⟨h1.moved ha, h2.moved ha, h3.moved ha, h4.same rfl, ⟨adV, h5.moved ha⟩, h6.moved ha, n1.same rfl rfl, n2.same rfl rfl, v, hc7, h7.moved ha⟩⟩⟩, fun U hU hW => ⟨rfl, by rw [hU]; exact hb0, va_K.moved hW.alike c8, by rw [hU]; exact g_Zs_to hW hZ hz (fun q h1 _ => hH.2.1 q (by rw [ha]; exact h1))⟩⟩ rfl rfl hls rfl (lv_room hroom) hd ⟨by rw [c11]; exact hcs.1, by rw [c12]; exact hcs.2⟩
  intro T hT X
  obtain ⟨v', st₀, t, T', Ln, h0, X', hLn, e1, e2, ⟨hv, hcn⟩, st⟩ := hr T hT X
  cases hv
  rw [h0] at hcn
  obtain ⟨t2, a1, b1⟩ := kk T'.heap (locs ++ Ln) (by rw [e1]; exact hH.app hcn) (fun q hq => by
      rcases List.mem_append.mp hq with h | h
      · exact hL q h
      · exact Nat.le_trans (Nat.le_add_right _ _) (hLn q h)) T' rfl X'
  exact ⟨t2, st t2 a1, b1⟩
end CnRowsZ
theorem st_N {s : State} {b : Nat} (hts : ∀ w ∈ lw_tbl, w.before #[Value.ref b] s = true) : cn_N true s := fun _ =>
  ⟨List.forall_mem_cons.mpr ⟨va_Nw.of rfl (hts _ (lwT_2 (List.mem_of_getElem? (i := 7) rfl))), List.forall_mem_cons.mpr ⟨va_Nw.of rfl (hts _ (lwT_2 (List.mem_of_getElem? (i := 11) rfl))), List.forall_mem_cons.mpr ⟨va_Nw.of rfl (hts _ (lwT_2 (List.mem_of_getElem? (i := 100) rfl))), List.forall_mem_cons.mpr ⟨va_Nw.of rfl (hts _ (lwT_1 (List.mem_of_getElem? (i := 29) rfl))), List.forall_mem_cons.mpr ⟨va_Nw.of rfl (hts _ (lwT_1 (List.mem_of_getElem? (i := 35) rfl))), List.forall_mem_cons.mpr ⟨va_Nw.of rfl (hts _ (lwT_1 (List.mem_of_getElem? (i := 106) rfl))), List.forall_mem_cons.mpr ⟨va_Nw.of rfl (hts _ (lwT_1 (List.mem_of_getElem? (i := 126) rfl))), List.forall_mem_cons.mpr ⟨va_Nw.of rfl (hts _ (lwT_1 (List.mem_of_getElem? (i := 213) rfl))), List.forall_mem_cons.mpr ⟨va_Nw.of rfl (hts _ (lwT_1 (List.mem_of_getElem? (i := 140) rfl))), List.forall_mem_cons.mpr ⟨va_Nw.of rfl (hts _ (lwT_2 (List.mem_of_getElem? (i := 105) rfl))), List.forall_mem_cons.mpr ⟨va_Nw.of rfl (hts _ (lwT_1 (List.mem_of_getElem? (i := 134) rfl))), fun _ h => absurd h List.not_mem_nil⟩⟩⟩⟩⟩⟩⟩⟩⟩⟩⟩, va_AO.of (hts _ (lwT_1 (List.mem_of_getElem? (i := 40) rfl))), va_AO.of (hts _ (lwT_2 (List.mem_of_getElem? (i := 8) rfl))), (hts _ (lwT_1 (List.mem_of_getElem? (i := 131) rfl)))⟩
def Mk_law : cn_M := (R_law, code, 4, 2048, 600000, 7302250, true, false)
set_option maxRecDepth 20000 in
theorem whole_start {p : Program} {e : Env} {s : State} {m : MethodId} {below : List Frame} {meth : Method} {c : Code} (l : Launch) (hflags : l.flags = flags0) {b L : Nat} {xs : Nat → Int32} (hL : L ≤ 3072) (C0 : lw_At p s m meth c b L xs) : W p l e room_1 s m #[Value.ref b] below meth c s.heap [] 0 0 (lw_Z below #[Value.ref b] s) (entryFrame m ([Value.ref b] : List Value).toArray 4) := by
  obtain ⟨hx, hb, hr, hml, hown, hts, hX, hbl, hlocks, hgv⟩ := id C0
  have hG : ∀ x ∈ lwG, x.before #[Value.ref b] s = true := fun x hx => hts x (List.mem_filter.mp hx).1
  have hN := st_N hts
  obtain ⟨D, cA, hK0⟩ := st_K hG hN
  obtain ⟨ex, hZ0⟩ := st_Zs hts hgv
  have hK := hK0 s.heap.size ex
  have hZ := hZ0 D cA
  have hW := wJ_Wk D cA s.heap.size ex
  have hm := wJ_m D cA s.heap.size ex
  have CL : cn_Ctx Mk_law p l e room_1 s m #[Value.ref b] below meth c (wJ D cA s.heap.size ex) :=
    ⟨hx, hb, hml, fun h => by (cases h), hlocks, hown, hG, hK, ⟨Nat.le_refl _, Nat.le_of_ble_eq_true rfl, rfl, rfl⟩, fun h => by (cases h), hN⟩
  have hl := lv_entry ([.ref b]) (n := 4) (Nat.le_of_ble_eq_true rfl)
  rw [lg_entry_eq]
  generalize (lg_sl ([.ref b]) ++ List.replicate (4 - (lg_sl ([.ref b])).length) Slot.unset).toArray = ls at hl ⊢
  have hl : lv_has ls 4 [(0, .ref b)] := hl
  have q0 : cnH (wD (wJ D cA s.heap.size ex)) s.heap s.heap.size [] s.heap := ⟨rfl, fun _ _ => rfl, fun j e h => by simp at h⟩
  have n0 : ∀ q ∈ ([] : List Loc), s.heap.size ≤ q.base := fun q hq => by cases hq
  refine cn_new (L := []) CL q0 (Cn := RX9) (T := TX9) (N := 17) (ci := 9) (idx := 7) (ty := tyX9) (df := [.null, .null, .null, .null, .null, .null, .null, .null, .null, .null, .null, .null, .null, .int 0, .int 0, .int 0, .int 0]) rfl inX9 tyX9_ok df_9 ⟨wi1_19, wi1_20, wi1_1⟩ (Nat.le_of_ble_eq_true rfl) (Nat.le_of_ble_eq_true rfl) (by decide +kernel) (fun H1 h1 => ?_)
  have q1 : cnH (wD (wJ D cA s.heap.size ex)) s.heap s.heap.size [.inr (9, [.null, .null, .null, .null, .null, .null, .null, .null, .null, .null, .null, .null, .null, .int 0, .int 0, .int 0, .int 0])] H1 := h1
  refine lv_dup hx hb (by decide +kernel) rfl ?_
  refine cn_call (L := []) (vs := []) CL k_9 rfl q1 n0 (idx := 9) (n := 0) (fun _ => rfl) rfl ⟨wi1_21, wi1_23, wi1_1, wi1_22⟩ ⟨by decide, by decide, by decide +kernel⟩ ⟨Nat.le_of_ble_eq_true rfl, by decide⟩ rfl hl.1 (Nat.le_of_ble_eq_true rfl) (by decide +kernel) ⟨Nat.le_of_ble_eq_true rfl, Nat.le_of_ble_eq_true rfl⟩ (fun H2 L2 h2 n2 => ?_)
  have q2 : cnH (wD (wJ D cA s.heap.size ex)) s.heap s.heap.size (cs_9 (wJ D cA s.heap.size ex) s.heap.size) H2 := h2
  refine lv_astore_n (k := 1) (lv' := [(1, .ref s.heap.size), (0, .ref b)]) hx hb (by decide +kernel) rfl hl (by decide) rfl (fun ls hl => ?_)
  refine cn_new (L := cs_9 (wJ D cA s.heap.size ex) s.heap.size) CL q2 (Cn := RX10) (T := TX10) (N := 68) (ci := 10) (idx := 10) (ty := tyX10) (df := [.int 0, .null, .null, .null, .null, .null, .int 0, .null, .int 0, .int 0, .int 0, .null, .null, .int 0, .int 0, .null, .null, .null, .int 0, .int 0, .int 0, .int 0, .null, .null, .int 0, .int 0, .int 0, .int 0, .null, .int 0, .int 0, .int 0, .int 0, .null, .long 0, .null, .int 0, .int 0, .int 0, .int 0, .int 0, .int 0, .null, .int 0, .null, .null, .int 0, .null, .null, .null, .null, .null, .null, .null, .null, .null, .null, .null, .int 0, .int 0, .int 0, .int 0, .int 0, .int 0, .null, .null, .int 0, .int 0]) rfl inX10 tyX10_ok df_10 ⟨wi5_90, wi5_91, wi1_12⟩ (Nat.le_of_ble_eq_true rfl) (Nat.le_of_ble_eq_true rfl) (by decide +kernel) (fun H3 h3 => ?_)
  refine lv_dup hx hb (by decide +kernel) rfl ?_
  have hk10 := k_10 (l := l) (w := wJ D cA s.heap.size ex) (a := s.heap.size + (cs_9 (wJ D cA s.heap.size ex) s.heap.size).length) hW (fun _ => rfl) hm (fun q hq => Nat.le_trans (Nat.le_add_right _ _) hq)
  refine cn_callZ (L := cs_9 (wJ D cA s.heap.size ex) s.heap.size) CL hk10 rfl h3 rfl hZ n2 (idx := 12) rfl ⟨wi5_92, wi5_94, wi1_12, wi5_93⟩ ⟨by decide, by decide, by decide +kernel⟩ ⟨Nat.le_of_ble_eq_true rfl, by decide⟩ hl.1 (Nat.le_of_ble_eq_true rfl) (by decide +kernel) ⟨Nat.le_of_ble_eq_true rfl, Nat.le_of_ble_eq_true rfl⟩ (fun H4 L4 h4 n4 => ?_)
  refine W.eq (g2 := F0 m 15 ls [.ref (s.heap.size + 100)]) rfl ?_
  refine lv_astore_n (k := 2) (lv' := [(2, .ref (s.heap.size + 100)), (1, .ref s.heap.size), (0, .ref b)]) hx hb (by decide +kernel) rfl hl (by decide) rfl (fun ls hl => ?_)
  refine lv_iconst (n := 0) (v := 0) hx hb (by decide +kernel) (by decide +kernel) ?_
  refine lv_istore_n (k := 3) (lv' := [(3, .int 0), (2, .ref (s.heap.size + 100)), (1, .ref s.heap.size), (0, .ref b)]) hx hb (by decide +kernel) rfl hl (by decide) rfl (fun ls hl => ?_)
  have hR := j_Rep h4
  have hS : va_S (wA (wJ D cA s.heap.size ex)) s.heap H4 L4 := ⟨by rw [h4.1]; exact Nat.le_add_right _ _, fun q hq _ => h4.2.1 q hq, n4⟩
  have CW : lw_C p s m c b L xs (wJ D cA s.heap.size ex) := ⟨hx, hb, hml, hown, hG, hK, hW, fun _ => rfl, hZ, hX, hbl, Nat.not_le.mpr hbl⟩
  refine W.widen (k := 1000 + 7 * 0) (n := 100000 + 600 * 0) (Nat.le_of_ble_eq_true rfl) (Nat.le_of_ble_eq_true rfl) ?_
  exact lw_loop CW hr hlocks hL (fun q h => h) (L + 1) 0 sg0 H4 L4 ls (Nat.zero_le _) (by omega) sg0_Inv hR hS sg0_wf hl
