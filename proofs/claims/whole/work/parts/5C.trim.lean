/-! Text.trimmed: a copy, the next of the texts -/
section CnCopy
variable {M : cn_M} {p : Program} {l : Launch} {e : Env} {R : Room} {s : State} {m : MethodId} {args : Array Value} {below : List Frame} {meth : Method} {c : Code} {w : g_W} {H : Heap} {locs : List Loc} {cells slots a pc : Nat} {lsA : Array Slot} {rest : List Value} {Q : State → Prop} {L : List va_E}
theorem cn_copy (C : cn_Ctx M p l e R s m args below meth c w) (hH : cnH (wD w) s.heap a L H) (hL : ∀ q ∈ locs, a ≤ q.base) {q0 n0 n1 j idx : Nat} {f0 f1 : Nat → Int32} (hP0 : va_P (wD w) vwCl [(q0, .inl (wC w 0, (n0, .inl f0)))] H) (hj : L[j]? = some (.inl (wC w 0, (n1, .inl f1)))) {sp dp n : Int32} (o : g_cok sp dp n n0 n1)
    (hw : Cond.methodLink (cnO M) idx arraycopyName ∈ lwG ∧ Cond.native arraycopyName ∈ lwG ∧ Cond.static arraycopyName ∈ lwG ∧ Cond.initialized "java/lang/System" ∈ lwG) (hmd : 1 ≤ cnD M) (hls : lsA.size = cnL M) (hsum : (rest.map fun v => v.category).sum ≤ 8) (hd : decode (cnB M) pc = .ok (.invokestatic idx, 3))
    (kk : ∀ (H1 : Heap) (locs1 : List Loc), cnH (wD w) s.heap a (L.set j (.inl (wC w 0, (n1, .inl (va_cpy f0 f1 (ix sp) (ix dp) (ix n)))))) H1 → (∀ q ∈ locs1, a ≤ q.base) → W p l e R s m args below meth c H1 locs1 cells slots Q (F0 m (pc + 3) lsA rest)) : W p l e R s m args below meth c H locs cells slots Q (F0 m pc lsA (.int n :: .int dp :: .ref (a + j) :: .int sp :: .ref q0 :: rest)) := by
  obtain ⟨c1, c2, c3, c4, c5, c6, c7, c8, ⟨c9, c10, c11, c12⟩, c13, c14⟩ := C
  obtain ⟨o1, o2, o3, o4, o5⟩ := o
  have hd1 : H[a + j]? = some (arrV (wC w 0) n1 (fun j => .int (f1 j))) := hH.2.2 j _ hj
  have hd0 : H[q0]? = some (arrV (wC w 0) n0 (fun j => .int (f0 j))) := hP0 0 _ rfl
  intro T hT X
  obtain ⟨-, ks, hks, cm0, hkk0⟩ := (c8.2 0 (wC w 0, .int) rfl).1 n0 (fun j => .int (f0 j))
  obtain ⟨-, kt, hkt, cm1, hkk1⟩ := (c8.2 0 (wC w 0, .int) rfl).1 n1 (fun j => .int (f1 j))
  obtain ⟨vm', X', step⟩ := X.arraycopy c1 c6 (c7 _ hw.1) (c7 _ hw.2.1) (c7 _ hw.2.2.1) (c7 _ hw.2.2.2) (srcPos := sp) (destPos := dp) (n := n) (by rw [hT]; exact hd0) (by rw [hT]; exact hd1)
    (fun _ q => by cases q) (fun _ q => by cases q) (fun q => by cases q) (fun q => by cases q) hks hkt hkk0 hkk1 rfl o1 o2 o3 (by rw [g_toN o1, g_toN o3, arrV_size]; omega) (by rw [g_toN o2, g_toN o3, arrV_size]; omega)
    (fun vm1 _ j hj => by
      have hlt : sp.toNatClampNeg + j < n0 := Nat.lt_of_lt_of_le (Nat.add_lt_add_left hj _) o4
      rw [Array.getD_eq_getD_getElem?, arrV_read _ _ hlt]
      exact ⟨rfl, trivial⟩)
    (g := F0 m pc lsA (.int n :: .int dp :: .ref (a + j) :: .int sp :: .ref q0 :: rest)) rfl (by rw [c3]; exact hls) (rest := rest) rfl (by rw [c2]; exact hd) (by omega)
    (by show 2 * 0 + _ + _ ≤ _; have : nativeFrameWords "java/lang/System" "arraycopy" 5 + 11 ≤ 32 := by decide +kernel
        omega)
  have ec : copied (arrV (wC w 0) n0 (fun j => .int (f0 j))) (arrV (wC w 0) n1 (fun j => .int (f1 j))) sp dp n = vp_cell (wC w 0) (n1, .inl (va_cpy f0 f1 (ix sp) (ix dp) (ix n))) := va_copied (fun z => .int z) (wC w 0) (wC w 0) f0 f1 o4
  rw [ec] at X' step
  have hlt : a + j < H.size := (Array.getElem?_eq_some_iff.mp hd1).1
  have oq : ∀ q : Nat, q ≠ a + j → (H.setIfInBounds (a + j) (vp_cell (wC w 0) (n1, .inl (va_cpy f0 f1 (ix sp) (ix dp) (ix n)))))[q]? = H[q]? := fun q hq => by simp [Array.getElem?_setIfInBounds, Ne.symm hq]
  have hsz : (H.setIfInBounds (a + j) (vp_cell (wC w 0) (n1, .inl (va_cpy f0 f1 (ix sp) (ix dp) (ix n))))).size = H.size := by simp
  obtain ⟨t, a1, b1⟩ := kk (H.setIfInBounds (a + j) (vp_cell (wC w 0) (n1, .inl (va_cpy f0 f1 (ix sp) (ix dp) (ix n))))) _
    (hH.set hsz oq (by
      show (H.setIfInBounds _ _)[_]? = some (vp_cell _ _)
      simp [Array.getElem?_setIfInBounds, hlt])) (fun q hq => by
      rcases List.mem_append.mp hq with z | z
      · exact hL q z
      · obtain ⟨y, -, rfl⟩ := List.mem_map.mp z
        exact Nat.le_add_right _ _)
    _ (by rw [← hT]; rfl) X'
  exact ⟨t, step t a1, b1⟩
end CnCopy
/-- a cell that lay there before -/
theorem cn_old {D : va_G} {B H : Heap} {a : Nat} {L : List va_E} (h : cnH D B a L H) (ha : a = B.size) {q : Nat × va_E} (hq : va_at D vwCl q B) : va_P D vwCl [q] H := fun k x hx => by
  cases k with
  | zero => cases hx; exact cn_at hq (h.2.1 _ (by rw [ha]; exact hq.lt))
  | succ k => cases hx
theorem cn_own {D : va_G} {B H : Heap} {a j : Nat} {L : List va_E} {e : va_E} (h : cnH D B a L H) (hj : L[j]? = some e) : va_P D vwCl [(a + j, e)] H := fun k x hx => by
  cases k with
  | zero => cases hx; exact h.2.2 j e hj
  | succ k => cases hx
theorem wt4_7 : (Cond.classLink "GalleyRoom$Text" (10 : Nat) "GalleyRoom$Text") ∈ lwG := lwG_4 (List.mem_of_getElem? (i := 7) rfl) rfl
theorem wt2_16 : (Cond.instantiable "GalleyRoom$Text" (9 : Nat)) ∈ lwG := lwG_2 (List.mem_of_getElem? (i := 16) rfl) rfl
theorem wt1_9 : (Cond.initialized "GalleyRoom$Text") ∈ lwG := lwG_1 (List.mem_of_getElem? (i := 9) rfl) rfl
theorem wt2_48 : (Cond.fieldLink "GalleyRoom$Text" (36 : Nat) "GalleyRoom$Text" "size" "I") ∈ lwG := lwG_2 (List.mem_of_getElem? (i := 48) rfl) rfl
theorem wt4_8 : (Cond.methodLink "GalleyRoom$Text" (40 : Nat) ({ cls := "GalleyRoom$Text", name := "<init>", desc := "(I)V" } : Jvm.MethodName)) ∈ lwG := lwG_4 (List.mem_of_getElem? (i := 8) rfl) rfl
theorem wt2_19 : (Cond.code ({ cls := "GalleyRoom$Text", name := "<init>", desc := "(I)V" } : Jvm.MethodName) prog_10_method_1_code (2 : Nat) (Option.none : Option Jvm.ClassFile.FieldType)) ∈ lwG := lwG_2 (List.mem_of_getElem? (i := 19) rfl) rfl
theorem wt2_18 : (Cond.instanceMethod ({ cls := "GalleyRoom$Text", name := "<init>", desc := "(I)V" } : Jvm.MethodName)) ∈ lwG := lwG_2 (List.mem_of_getElem? (i := 18) rfl) rfl
theorem wt4_9 : (Cond.methodLink "GalleyRoom$Text" (43 : Nat) ({ cls := "java/lang/System", name := "arraycopy", desc := "(Ljava/lang/Object;ILjava/lang/Object;II)V" } : Jvm.MethodName)) ∈ lwG := lwG_4 (List.mem_of_getElem? (i := 9) rfl) rfl
theorem wt4_11 : (Cond.native ({ cls := "java/lang/System", name := "arraycopy", desc := "(Ljava/lang/Object;ILjava/lang/Object;II)V" } : Jvm.MethodName)) ∈ lwG := lwG_4 (List.mem_of_getElem? (i := 11) rfl) rfl
theorem wt4_10 : (Cond.static ({ cls := "java/lang/System", name := "arraycopy", desc := "(Ljava/lang/Object;ILjava/lang/Object;II)V" } : Jvm.MethodName)) ∈ lwG := lwG_4 (List.mem_of_getElem? (i := 10) rfl) rfl
theorem wt1_17 : (Cond.initialized "java/lang/System") ∈ lwG := lwG_1 (List.mem_of_getElem? (i := 17) rfl) rfl
theorem wt2_42 : (Cond.fieldLink "GalleyRoom$Text" (33 : Nat) "GalleyRoom$Text" "code" "[I") ∈ lwG := lwG_2 (List.mem_of_getElem? (i := 42) rfl) rfl
theorem wt2_24 : (Cond.fieldLink "GalleyRoom$Text" (9 : Nat) "GalleyRoom$Text" "verb" "[I") ∈ lwG := lwG_2 (List.mem_of_getElem? (i := 24) rfl) rfl
theorem wt2_28 : (Cond.fieldLink "GalleyRoom$Text" (15 : Nat) "GalleyRoom$Text" "times" "[I") ∈ lwG := lwG_2 (List.mem_of_getElem? (i := 28) rfl) rfl
theorem wt2_31 : (Cond.fieldLink "GalleyRoom$Text" (18 : Nat) "GalleyRoom$Text" "firstSum" "[I") ∈ lwG := lwG_2 (List.mem_of_getElem? (i := 31) rfl) rfl
theorem wt2_35 : (Cond.fieldLink "GalleyRoom$Text" (21 : Nat) "GalleyRoom$Text" "secondSum" "[I") ∈ lwG := lwG_2 (List.mem_of_getElem? (i := 35) rfl) rfl
theorem wt2_38 : (Cond.fieldLink "GalleyRoom$Text" (24 : Nat) "GalleyRoom$Text" "test" "[I") ∈ lwG := lwG_2 (List.mem_of_getElem? (i := 38) rfl) rfl
theorem wt2_44 : (Cond.fieldLink "GalleyRoom$Text" (49 : Nat) "GalleyRoom$Text" "clauses" "I") ∈ lwG := lwG_2 (List.mem_of_getElem? (i := 44) rfl) rfl
theorem wt2_50 : (Cond.fieldLink "GalleyRoom$Text" (52 : Nat) "GalleyRoom$Text" "asksLine" "Z") ∈ lwG := lwG_2 (List.mem_of_getElem? (i := 50) rfl) rfl
def M_x8_trimmed : g_M := (RX8, cX8_trimmed, 2, some (.object "GalleyRoom$Text"), 3, 1)
def Mk_tr : cn_M := (RX8, cX8_trimmed, 2, 3, 7, 600, false, false)
noncomputable def trS (σ : Sg) (g : Nat) : Sg := (fun k i s => if i = rN σ 79 0 0 ∧ ((31 ≤ k ∧ k ≤ 36) ∨ k = 8) then σ.1 k g s else σ.1 k i s, (σ.2.1, u3 (u3 σ.2.2 36 (rN σ 79 0 0) 0 (ix (rI σ 8 g 7))) 79 0 0 (rN σ 79 0 0 + 1)))
theorem tr_inv {ρ : Type} {σ : Sg} {as : List PV} {k : Sg → Option PV → Option ρ} {r : ρ} (hlen : as.length = 1) (e : FW_x8_trimmed x8_trimmed ρ σ as k = some r) : ∃ g, as = [.inr (.inr (some (8, g)))] ∧ (¬ rI σ 8 g 7 < 0 ∧ ix (rI σ 8 g 7) ≤ rN σ 36 g 0 ∧ ix (rI σ 8 g 7) ≤ 512 ∧ isB (rI σ 8 g 8)) ∧ k (trS σ g) (some (.inr (.inr (some (8, rN σ 79 0 0))))) = some r := by
  obtain ⟨v, rfl⟩ := List.length_eq_one_iff.mp hlen
  unfold FW_x8_trimmed at e
  obtain ⟨g, h1, h2⟩ := p_R_inv e
  have h3 := p_E_inv h2
  have hv : v = .inr (.inr (some (8, g))) := Option.some.inj (lget_map h1)
  subst hv
  obtain ⟨q, q1, q2⟩ := Option.bind_eq_some_iff.mp h3
  unfold x8_trimmed at q1
  obtain ⟨hc, q1⟩ := gd_some q1
  cases q1
  exact ⟨g, rfl, hc, q2⟩
theorem tr_rN (σ : Sg) (g k i c : Nat) : rN (trS σ g) k i c = if k = 79 ∧ i = 0 ∧ c = 0 then rN σ 79 0 0 + 1 else if k = 36 ∧ i = rN σ 79 0 0 ∧ c = 0 then ix (rI σ 8 g 7) else rN σ k i c := rfl
theorem tr_rI (σ : Sg) (g k i c : Nat) : rI (trS σ g) k i c = if i = rN σ 79 0 0 ∧ ((31 ≤ k ∧ k ≤ 36) ∨ k = 8) then rI σ k g c else rI σ k i c := rfl
theorem tr_nT (σ : Sg) (g : Nat) : g_nT (trS σ g) = g_nT σ + 1 := by
  show rN (trS σ g) 79 0 0 = rN σ 79 0 0 + 1
  rw [tr_rN, if_pos ⟨rfl, rfl, rfl⟩]
theorem tr_new {σ : Sg} {g k c : Nat} (hk : (31 ≤ k ∧ k ≤ 36) ∨ k = 8) : rI (trS σ g) k (g_nT σ) c = rI σ k g c := by
  rw [tr_rI]
  exact if_pos ⟨rfl, hk⟩
theorem tr_tx {k : Nat} (h : g_tx k = true) : (31 ≤ k ∧ k ≤ 36) ∨ k = 8 := by
  unfold g_tx at h
  simp only [Bool.or_eq_true, Bool.and_eq_true] at h
  rcases h with h | ⟨h1, h2⟩
  · exact Or.inr (Nat.eq_of_beq_eq_true h)
  · exact Or.inl ⟨Nat.le_of_ble_eq_true h1, Nat.le_of_ble_eq_true h2⟩
theorem tr_tx' {k : Nat} (h : (31 ≤ k ∧ k ≤ 36) ∨ k = 8) : g_tx k = true := by
  unfold g_tx
  rcases h with ⟨h1, h2⟩ | rfl
  · rw [Nat.ble_eq_true_of_le h1, Nat.ble_eq_true_of_le h2]; simp
  · rfl
theorem tr_cpy {f g : Nat → Int32} {n j : Nat} (h : j < n) : va_cpy f g (ix 0) (ix 0) n j = f j := by
  have h0 : ix 0 = 0 := by decide
  unfold va_cpy
  rw [h0, if_pos ⟨Nat.zero_le _, by omega⟩]
  congr 1
  omega
def tr_cs (w : g_W) (σ : Sg) (g a : Nat) : List va_E := [.inr (8, [.ref (a + 1), .ref (a + 2), .ref (a + 3), .ref (a + 4), .ref (a + 5), .ref (a + 6), .int (rI σ 8 g 6), .int (rI σ 8 g 7), .int (rI σ 8 g 8)]), .inl (wC w 0, (12, .inl (va_cpy (rI σ 31 g) (fun _ => 0) (ix 0) (ix 0) (ix 12)))), .inl (wC w 0, (12, .inl (va_cpy (rI σ 32 g) (fun _ => 0) (ix 0) (ix 0) (ix 12)))), .inl (wC w 0, (12, .inl (va_cpy (rI σ 33 g) (fun _ => 0) (ix 0) (ix 0) (ix 12)))), .inl (wC w 0, (12, .inl (va_cpy (rI σ 34 g) (fun _ => 0) (ix 0) (ix 0) (ix 12)))), .inl (wC w 0, (12, .inl (va_cpy (rI σ 35 g) (fun _ => 0) (ix 0) (ix 0) (ix 12)))), .inl (wC w 0, ((rI σ 8 g 7).toNatClampNeg, .inl (va_cpy (rI σ 36 g) (fun _ => 0) (ix 0) (ix 0) (ix (rI σ 8 g 7)))))]
theorem tr_Rep {w : g_W} {σ : Sg} {g : Nat} {B H : Heap} (hw : g_Wk w) (hwf : g_wf w σ) (h8 : wk w 8 = true) (hn0 : ¬ rI σ 8 g 7 < 0) (hR : g_Rep w σ B) (hH : cnH (wD w) B B.size (tr_cs w σ g B.size) H) : g_Rep w (trS σ g) H := by
  have h1 : 1 ≤ g_nT σ := hwf.1 h8
  obtain ⟨t1, t2, t3, t4⟩ := hw.1.2 h8 (g_nT σ) h1
  have hz : B.size = wz w (g_nT σ) := hR.1
  rw [← hz] at t1 t2 t3
  refine ⟨by rw [tr_nT, t3, hH.1]; rfl, fun k i hk hv => ?_, fun k i hk hk9 hv j hj => ?_⟩
  case refine_2 =>
    have hx : g_tx k = false := by
      have : k = 76 ∨ k = 77 ∨ k = 78 := by omega
      rcases this with rfl | rfl | rfl <;> rfl
    rw [tr_rI, if_neg (by omega)]
    exact hR.2.2 k i hk hk9 ⟨hv.1, by have h2 := hv.2; unfold g_cnt at h2 ⊢; rw [hx] at h2 ⊢; exact h2⟩ j hj
  by_cases q : g_tx k = true ∧ i = g_nT σ
  · obtain ⟨q, rfl⟩ := q
    rcases tr_tx q with hk' | rfl
    · have : k = 31 ∨ k = 32 ∨ k = 33 ∨ k = 34 ∨ k = 35 ∨ k = 36 := by omega
      rcases this with rfl | rfl | rfl | rfl | rfl | rfl
      · rw [t2 0 (by decide)]
        have ho : H[B.size + 1]? = some (arrV (wC w 0) 12 (fun z => .int (va_cpy (rI σ 31 g) (fun _ => 0) (ix 0) (ix 0) (ix 12) z))) := hH.2.2 1 _ rfl
        show H[B.size + 1 + 0]? = some (arrV (wC w 0) 12 (fun z => .int (rI (trS σ g) 31 (g_nT σ) z)))
        rw [show B.size + 1 + 0 = B.size + 1 by omega, ho]
        exact congrArg some (g_arrV_congr (fun z hz => by rw [tr_new (Or.inl ⟨by decide, by decide⟩), tr_cpy (by rw [show ix 12 = 12 from by decide]; exact hz)]))
      · rw [t2 1 (by decide)]
        have ho : H[B.size + 2]? = some (arrV (wC w 0) 12 (fun z => .int (va_cpy (rI σ 32 g) (fun _ => 0) (ix 0) (ix 0) (ix 12) z))) := hH.2.2 2 _ rfl
        show H[B.size + 1 + 1]? = some (arrV (wC w 0) 12 (fun z => .int (rI (trS σ g) 32 (g_nT σ) z)))
        rw [show B.size + 1 + 1 = B.size + 2 by omega, ho]
        exact congrArg some (g_arrV_congr (fun z hz => by rw [tr_new (Or.inl ⟨by decide, by decide⟩), tr_cpy (by rw [show ix 12 = 12 from by decide]; exact hz)]))
      · rw [t2 2 (by decide)]
        have ho : H[B.size + 3]? = some (arrV (wC w 0) 12 (fun z => .int (va_cpy (rI σ 33 g) (fun _ => 0) (ix 0) (ix 0) (ix 12) z))) := hH.2.2 3 _ rfl
        show H[B.size + 1 + 2]? = some (arrV (wC w 0) 12 (fun z => .int (rI (trS σ g) 33 (g_nT σ) z)))
        rw [show B.size + 1 + 2 = B.size + 3 by omega, ho]
        exact congrArg some (g_arrV_congr (fun z hz => by rw [tr_new (Or.inl ⟨by decide, by decide⟩), tr_cpy (by rw [show ix 12 = 12 from by decide]; exact hz)]))
      · rw [t2 3 (by decide)]
        have ho : H[B.size + 4]? = some (arrV (wC w 0) 12 (fun z => .int (va_cpy (rI σ 34 g) (fun _ => 0) (ix 0) (ix 0) (ix 12) z))) := hH.2.2 4 _ rfl
        show H[B.size + 1 + 3]? = some (arrV (wC w 0) 12 (fun z => .int (rI (trS σ g) 34 (g_nT σ) z)))
        rw [show B.size + 1 + 3 = B.size + 4 by omega, ho]
        exact congrArg some (g_arrV_congr (fun z hz => by rw [tr_new (Or.inl ⟨by decide, by decide⟩), tr_cpy (by rw [show ix 12 = 12 from by decide]; exact hz)]))
      · rw [t2 4 (by decide)]
        have ho : H[B.size + 5]? = some (arrV (wC w 0) 12 (fun z => .int (va_cpy (rI σ 35 g) (fun _ => 0) (ix 0) (ix 0) (ix 12) z))) := hH.2.2 5 _ rfl
        show H[B.size + 1 + 4]? = some (arrV (wC w 0) 12 (fun z => .int (rI (trS σ g) 35 (g_nT σ) z)))
        rw [show B.size + 1 + 4 = B.size + 5 by omega, ho]
        exact congrArg some (g_arrV_congr (fun z hz => by rw [tr_new (Or.inl ⟨by decide, by decide⟩), tr_cpy (by rw [show ix 12 = 12 from by decide]; exact hz)]))
      · rw [t2 5 (by decide)]
        have ho : H[B.size + 6]? = some (arrV (wC w 0) (ix (rI σ 8 g 7)) (fun z => .int (va_cpy (rI σ 36 g) (fun _ => 0) (ix 0) (ix 0) (ix (rI σ 8 g 7)) z))) := hH.2.2 6 _ rfl
        have el : rN (trS σ g) 36 (g_nT σ) 0 = ix (rI σ 8 g 7) := by rw [tr_rN, if_neg (by omega), if_pos ⟨rfl, rfl, rfl⟩]
        show H[B.size + 1 + 5]? = some (arrV (wC w 0) (rN (trS σ g) 36 (g_nT σ) 0) (fun z => .int (rI (trS σ g) 36 (g_nT σ) z)))
        rw [el, show B.size + 1 + 5 = B.size + 6 by omega, ho]
        exact congrArg some (g_arrV_congr (fun z hz => by rw [tr_new (Or.inl ⟨by decide, by decide⟩), tr_cpy hz]))
    · rw [t1]
      have ho := hH.2.2 0 _ rfl
      have eo : g_cell w (trS σ g) 8 (g_nT σ) = .inr (8, [.ref (wr w 31 (g_nT σ)), .ref (wr w 32 (g_nT σ)), .ref (wr w 33 (g_nT σ)), .ref (wr w 34 (g_nT σ)), .ref (wr w 35 (g_nT σ)), .ref (wr w 36 (g_nT σ)), .int (rI (trS σ g) 8 (g_nT σ) 6), .int (rI (trS σ g) 8 (g_nT σ) 7), .int (rI (trS σ g) 8 (g_nT σ) 8)]) := rfl
      rw [eo, tr_new (Or.inr rfl), tr_new (Or.inr rfl), tr_new (Or.inr rfl), t2 0 (by decide), t2 1 (by decide), t2 2 (by decide), t2 3 (by decide), t2 4 (by decide), t2 5 (by decide)]
      exact ho
  · have hv0 : g_vo w σ k i := by
      refine ⟨hv.1, ?_⟩
      have h2 := hv.2
      unfold g_cnt at h2 ⊢
      rw [tr_nT] at h2
      cases e : g_tx k with
      | true =>
        rw [e] at h2
        have : i ≠ g_nT σ := fun z => q ⟨e, z⟩
        show i < g_nT σ
        have h2 : i < g_nT σ + 1 := h2
        omega
      | false => rw [e] at h2; exact h2
    have hat := hR.2.1 k i hk hv0
    have ec : g_cell w (trS σ g) k i = g_cell w σ k i := by
      refine g_cell_congr (fun c => ?_) (fun _ => rfl) (fun c => ?_)
      · rw [tr_rI]
        exact if_neg (fun z => q ⟨tr_tx' z.2, z.1⟩)
      · rw [tr_rN, if_neg (by omega), if_neg (fun z => q ⟨by rw [z.1]; rfl, z.2.1⟩)]
    rw [ec]
    exact cn_at hat (hH.2.1 _ hat.lt)
theorem tr_wf {w : g_W} {σ : Sg} {g : Nat} (h : g_wf w σ) : g_wf w (trS σ g) := by
  refine ⟨fun _ => by rw [tr_nT]; omega, fun x i hx hi => ?_, fun c => ?_⟩
  · rw [tr_nT, tr_rN, if_neg (by omega), if_neg (by omega)]
    have := h.2.1 x i hx hi
    omega
  · rw [tr_rN, if_neg (by omega), if_neg (by omega)]
    exact h.2.2 c
theorem tr_of {n : Int32} (h : ¬ n < 0) (h2 : ix n ≤ 512) : Int32.ofNat (ix n) = n := by
  apply Int32.toInt_inj.mp
  rw [Int32.toInt_ofNat_of_lt (by omega), g_toN h]
theorem rec_x8_trimmed (f : Sg → Nat → Option (Sg × Nat)) : ∀ ρ' σ as (k' : Sg → Option PV → Option ρ') r, FW_x8_trimmed f ρ' σ as k' = some r → ∃ i t, as = .inr (.inr (some (8, i))) :: t := by
  intro ρ' σ as k' r e
  unfold FW_x8_trimmed at e
  obtain ⟨i, h, -⟩ := p_R_inv e
  exact g_hd h rfl
set_option maxRecDepth 20000 in
theorem hE_x8_trimmed : g_Fn M_x8_trimmed yX8_trimmed 1 (FW_x8_trimmed x8_trimmed) := by
  intro l w hw σ as hlen hwf hok ρ k r e
  obtain ⟨g, rfl, ⟨hn0, hn1, hn2, hB⟩, e⟩ := tr_inv hlen e
  refine ⟨_, _, e, Or.inr (tr_nT σ g), ?_⟩
  have hv : g_vo w σ 8 g := hok _ List.mem_cons_self
  have hk8 : wk w 8 = true := hv.1
  have hg : g < g_nT σ := hv.2
  refine Met.ofW (cc := cX8_trimmed) (maxL := 2) (ret := some (.object "GalleyRoom$Text")) (by decide) rfl ?_
  intro p e s m args below meth c s₁ B hml hv
  obtain ⟨rfl, hR, hK, hZ⟩ := hv
  have hts := atoms_spec (ws := Cond.code yX8_trimmed cX8_trimmed 2 (some (.object "GalleyRoom$Text")) :: lwG) B.pre
  have hown : s.vm.findClass RX8 = some m.cls := findClass_of_methodNamed B.named
  have hl := lv_entry (List.map (g_vl w) [.inr (.inr (some (8, g)))]) (n := 2) (Nat.le_of_ble_eq_true rfl)
  rw [lg_entry_eq]
  generalize (lg_sl (List.map (g_vl w) [.inr (.inr (some (8, g)))]) ++ List.replicate (2 - (lg_sl (List.map (g_vl w) [.inr (.inr (some (8, g)))])).length) Slot.unset).toArray = lsA at hl ⊢
  have hlv : lv_has lsA 2 [(0, .ref (wr w 8 g))] := hl
  have C : cn_Ctx Mk_tr p l e ({ frames := 3, cells := 7, slots := 600, locals := 120 } : Room) s m (List.map (g_vl w) [.inr (.inr (some (8, g)))]).toArray below meth c w :=
    ⟨B.exec, B.bytes, hml, fun h => by (cases h), B.notSynchronized, hown, fun x hx => hts x (List.mem_cons_of_mem _ hx), hK, ⟨Nat.le_refl _, Nat.le_refl _, rfl, rfl⟩, fun h => by (cases h), fun h => by (cases h)⟩
  have hO : va_at (wD w) vwCl (wr w 8 g, .inr (8, [.ref (wr w 31 g), .ref (wr w 32 g), .ref (wr w 33 g), .ref (wr w 34 g), .ref (wr w 35 g), .ref (wr w 36 g), .int (rI σ 8 g 6), .int (rI σ 8 g 7), .int (rI σ 8 g 8)])) s.heap := hR.2.1 8 g (by decide) ⟨hk8, hg⟩
  have hO31 : va_at (wD w) vwCl (wr w 31 g, .inl (wC w 0, (12, .inl (rI σ 31 g)))) s.heap := hR.2.1 31 g (by decide) ⟨(hw.2.2 31 8 rfl).trans hk8, hg⟩
  have hO32 : va_at (wD w) vwCl (wr w 32 g, .inl (wC w 0, (12, .inl (rI σ 32 g)))) s.heap := hR.2.1 32 g (by decide) ⟨(hw.2.2 32 8 rfl).trans hk8, hg⟩
  have hO33 : va_at (wD w) vwCl (wr w 33 g, .inl (wC w 0, (12, .inl (rI σ 33 g)))) s.heap := hR.2.1 33 g (by decide) ⟨(hw.2.2 33 8 rfl).trans hk8, hg⟩
  have hO34 : va_at (wD w) vwCl (wr w 34 g, .inl (wC w 0, (12, .inl (rI σ 34 g)))) s.heap := hR.2.1 34 g (by decide) ⟨(hw.2.2 34 8 rfl).trans hk8, hg⟩
  have hO35 : va_at (wD w) vwCl (wr w 35 g, .inl (wC w 0, (12, .inl (rI σ 35 g)))) s.heap := hR.2.1 35 g (by decide) ⟨(hw.2.2 35 8 rfl).trans hk8, hg⟩
  have hO36 : va_at (wD w) vwCl (wr w 36 g, .inl (wC w 0, (rN σ 36 g 0, .inl (rI σ 36 g)))) s.heap := hR.2.1 36 g (by decide) ⟨(hw.2.2 36 8 rfl).trans hk8, hg⟩
  have p0 : cnH (wD w) s.heap s.heap.size [] s.heap := ⟨rfl, fun _ _ => rfl, fun j e h => by simp at h⟩
  have hL : ∀ q ∈ ([] : List Loc), s.heap.size ≤ q.base := fun q hq => by cases hq
  have C0 := C
  obtain ⟨c1, c2, c3, c4, c5, c6, c7, c8, c9, c13, c14⟩ := C0
  refine cn_new (L := []) C p0 (Cn := RX8) (T := TX8) (N := 9) (ci := 8) (idx := 10) (ty := tyX8) (df := [.null, .null, .null, .null, .null, .null, .int 0, .int 0, .int 0]) rfl inX8 tyX8_ok df_8 ⟨wt4_7, wt2_16, wt1_9⟩ (by decide) (by decide) (by decide +kernel) (fun H1 h1 => ?_)
  have p1 : cnH (wD w) s.heap s.heap.size [.inr (8, [.null, .null, .null, .null, .null, .null, .int 0, .int 0, .int 0])] H1 := h1
  refine lv_dup c1 c2 (by decide +kernel) rfl ?_
  refine lv_aload_n (k := 0) c1 c2 (by decide +kernel) rfl (lv_at hlv 0 rfl) ?_
  refine va_get (C := RX8) (T := TX8) (N := 9) (ref := (TX8 7).1) (index := 36) c1 c2 c7 inX8 c6 c8 (cn_old p1 rfl hO) 0 rfl rfl 7 (by decide) (c7 _ wt2_48) (fun x h => h) rfl (by decide +kernel) ?_
  refine cn_call (L := []) (vs := [.int (rI σ 8 g 7)]) C (k_8 (n := (rI σ 8 g 7)) hn0 hn2) rfl p1 hL (idx := 40) (n := 1) (by decide) rfl ⟨wt4_8, wt2_19, wt1_9, wt2_18⟩ ⟨by decide, by decide, by decide +kernel⟩ ⟨by decide, by decide⟩ rfl hlv.1 (Nat.le_of_ble_eq_true rfl) (by decide +kernel) ⟨by decide, by decide⟩ (fun H2 L2 h2 hL => ?_)
  have p2 : cnH (wD w) s.heap s.heap.size [.inr (8, [.ref (s.heap.size + 1), .ref (s.heap.size + 2), .ref (s.heap.size + 3), .ref (s.heap.size + 4), .ref (s.heap.size + 5), .ref (s.heap.size + 6), .int 0, .int 0, .int 0]), .inl (wC w 0, (12, .inl (fun _ => 0))), .inl (wC w 0, (12, .inl (fun _ => 0))), .inl (wC w 0, (12, .inl (fun _ => 0))), .inl (wC w 0, (12, .inl (fun _ => 0))), .inl (wC w 0, (12, .inl (fun _ => 0))), .inl (wC w 0, ((rI σ 8 g 7).toNatClampNeg, .inl (fun _ => 0)))] H2 := h2
  refine lv_astore_n (k := 1) (lv' := [(1, .ref s.heap.size), (0, .ref (wr w 8 g))]) c1 c2 (by decide +kernel) rfl hlv (by decide) rfl (fun lsA hlv => ?_)
  refine lv_aload_n (k := 0) c1 c2 (by decide +kernel) rfl (lv_at hlv 1 rfl) ?_
  refine va_get (C := RX8) (T := TX8) (N := 9) (ref := (TX8 5).1) (index := 33) c1 c2 c7 inX8 c6 c8 (cn_old p2 rfl hO) 0 rfl rfl 5 (by decide) (c7 _ wt2_42) (fun x h => h) rfl (by decide +kernel) ?_
  refine lv_iconst (n := 0) (v := 0) c1 c2 (by decide +kernel) (by decide +kernel) ?_
  refine lv_aload_n (k := 1) c1 c2 (by decide +kernel) rfl (lv_at hlv 0 rfl) ?_
  refine W.eq (g2 := F0 m 18 lsA (.ref (s.heap.size + 0) :: [.int 0, .ref (wr w 36 g)])) rfl ?_
  refine cn_get (L := [.inr (8, [.ref (s.heap.size + 1), .ref (s.heap.size + 2), .ref (s.heap.size + 3), .ref (s.heap.size + 4), .ref (s.heap.size + 5), .ref (s.heap.size + 6), .int 0, .int 0, .int 0]), .inl (wC w 0, (12, .inl (fun _ => 0))), .inl (wC w 0, (12, .inl (fun _ => 0))), .inl (wC w 0, (12, .inl (fun _ => 0))), .inl (wC w 0, (12, .inl (fun _ => 0))), .inl (wC w 0, (12, .inl (fun _ => 0))), .inl (wC w 0, ((rI σ 8 g 7).toNatClampNeg, .inl (fun _ => 0)))]) C p2 (idx := 33) (ci := 8) (sl := 5) (N := 9) (j := 0) (Cn := RX8) (T := TX8) (fs := [.ref (s.heap.size + 1), .ref (s.heap.size + 2), .ref (s.heap.size + 3), .ref (s.heap.size + 4), .ref (s.heap.size + 5), .ref (s.heap.size + 6), .int 0, .int 0, .int 0]) (v := .ref (s.heap.size + 6)) rfl inX8 (by decide) wt2_42 rfl rfl (by decide +kernel) ?_
  refine lv_iconst (n := 0) (v := 0) c1 c2 (by decide +kernel) (by decide +kernel) ?_
  refine lv_aload_n (k := 1) c1 c2 (by decide +kernel) rfl (lv_at hlv 0 rfl) ?_
  refine W.eq (g2 := F0 m 23 lsA (.ref (s.heap.size + 0) :: [.int 0, .ref (s.heap.size + 6), .int 0, .ref (wr w 36 g)])) rfl ?_
  refine cn_get (L := [.inr (8, [.ref (s.heap.size + 1), .ref (s.heap.size + 2), .ref (s.heap.size + 3), .ref (s.heap.size + 4), .ref (s.heap.size + 5), .ref (s.heap.size + 6), .int 0, .int 0, .int 0]), .inl (wC w 0, (12, .inl (fun _ => 0))), .inl (wC w 0, (12, .inl (fun _ => 0))), .inl (wC w 0, (12, .inl (fun _ => 0))), .inl (wC w 0, (12, .inl (fun _ => 0))), .inl (wC w 0, (12, .inl (fun _ => 0))), .inl (wC w 0, ((rI σ 8 g 7).toNatClampNeg, .inl (fun _ => 0)))]) C p2 (idx := 33) (ci := 8) (sl := 5) (N := 9) (j := 0) (Cn := RX8) (T := TX8) (fs := [.ref (s.heap.size + 1), .ref (s.heap.size + 2), .ref (s.heap.size + 3), .ref (s.heap.size + 4), .ref (s.heap.size + 5), .ref (s.heap.size + 6), .int 0, .int 0, .int 0]) (v := .ref (s.heap.size + 6)) rfl inX8 (by decide) wt2_42 rfl rfl (by decide +kernel) ?_
  refine va_alen c1 c2 c8 (cn_own (j := 6) (L := [.inr (8, [.ref (s.heap.size + 1), .ref (s.heap.size + 2), .ref (s.heap.size + 3), .ref (s.heap.size + 4), .ref (s.heap.size + 5), .ref (s.heap.size + 6), .int 0, .int 0, .int 0]), .inl (wC w 0, (12, .inl (fun _ => 0))), .inl (wC w 0, (12, .inl (fun _ => 0))), .inl (wC w 0, (12, .inl (fun _ => 0))), .inl (wC w 0, (12, .inl (fun _ => 0))), .inl (wC w 0, (12, .inl (fun _ => 0))), .inl (wC w 0, ((rI σ 8 g 7).toNatClampNeg, .inl (fun _ => 0)))]) p2 rfl) 0 0 rfl rfl (v := (rI σ 8 g 7)) (tr_of hn0 hn2) (by decide +kernel) ?_
  refine cn_copy (L := [.inr (8, [.ref (s.heap.size + 1), .ref (s.heap.size + 2), .ref (s.heap.size + 3), .ref (s.heap.size + 4), .ref (s.heap.size + 5), .ref (s.heap.size + 6), .int 0, .int 0, .int 0]), .inl (wC w 0, (12, .inl (fun _ => 0))), .inl (wC w 0, (12, .inl (fun _ => 0))), .inl (wC w 0, (12, .inl (fun _ => 0))), .inl (wC w 0, (12, .inl (fun _ => 0))), .inl (wC w 0, (12, .inl (fun _ => 0))), .inl (wC w 0, ((rI σ 8 g 7).toNatClampNeg, .inl (fun _ => 0)))]) C p2 hL (q0 := wr w 36 g) (n0 := (rN σ 36 g 0)) (n1 := (rI σ 8 g 7).toNatClampNeg) (j := 6) (idx := 43) (f0 := rI σ 36 g) (f1 := (fun _ => 0)) (cn_old p2 rfl hO36) rfl (sp := 0) (dp := 0) (n := (rI σ 8 g 7)) ⟨by decide, by decide, hn0, by rw [show ix 0 = 0 from by decide, Nat.zero_add]; exact hn1, by rw [show ix 0 = 0 from by decide, Nat.zero_add]; exact Nat.le_refl _⟩ ⟨wt4_9, wt4_11, wt4_10, wt1_17⟩ (by decide) hlv.1 (Nat.le_of_ble_eq_true rfl) (by decide +kernel) (fun H3 L3 h3 hL => ?_)
  have p3 : cnH (wD w) s.heap s.heap.size [.inr (8, [.ref (s.heap.size + 1), .ref (s.heap.size + 2), .ref (s.heap.size + 3), .ref (s.heap.size + 4), .ref (s.heap.size + 5), .ref (s.heap.size + 6), .int 0, .int 0, .int 0]), .inl (wC w 0, (12, .inl (fun _ => 0))), .inl (wC w 0, (12, .inl (fun _ => 0))), .inl (wC w 0, (12, .inl (fun _ => 0))), .inl (wC w 0, (12, .inl (fun _ => 0))), .inl (wC w 0, (12, .inl (fun _ => 0))), .inl (wC w 0, ((rI σ 8 g 7).toNatClampNeg, .inl (va_cpy (rI σ 36 g) (fun _ => 0) (ix 0) (ix 0) (ix (rI σ 8 g 7)))))] H3 := h3
  refine lv_aload_n (k := 0) c1 c2 (by decide +kernel) rfl (lv_at hlv 1 rfl) ?_
  refine va_get (C := RX8) (T := TX8) (N := 9) (ref := (TX8 0).1) (index := 9) c1 c2 c7 inX8 c6 c8 (cn_old p3 rfl hO) 0 rfl rfl 0 (by decide) (c7 _ wt2_24) (fun x h => h) rfl (by decide +kernel) ?_
  refine lv_iconst (n := 0) (v := 0) c1 c2 (by decide +kernel) (by decide +kernel) ?_
  refine lv_aload_n (k := 1) c1 c2 (by decide +kernel) rfl (lv_at hlv 0 rfl) ?_
  refine W.eq (g2 := F0 m 36 lsA (.ref (s.heap.size + 0) :: [.int 0, .ref (wr w 31 g)])) rfl ?_
  refine cn_get (L := [.inr (8, [.ref (s.heap.size + 1), .ref (s.heap.size + 2), .ref (s.heap.size + 3), .ref (s.heap.size + 4), .ref (s.heap.size + 5), .ref (s.heap.size + 6), .int 0, .int 0, .int 0]), .inl (wC w 0, (12, .inl (fun _ => 0))), .inl (wC w 0, (12, .inl (fun _ => 0))), .inl (wC w 0, (12, .inl (fun _ => 0))), .inl (wC w 0, (12, .inl (fun _ => 0))), .inl (wC w 0, (12, .inl (fun _ => 0))), .inl (wC w 0, ((rI σ 8 g 7).toNatClampNeg, .inl (va_cpy (rI σ 36 g) (fun _ => 0) (ix 0) (ix 0) (ix (rI σ 8 g 7)))))]) C p3 (idx := 9) (ci := 8) (sl := 0) (N := 9) (j := 0) (Cn := RX8) (T := TX8) (fs := [.ref (s.heap.size + 1), .ref (s.heap.size + 2), .ref (s.heap.size + 3), .ref (s.heap.size + 4), .ref (s.heap.size + 5), .ref (s.heap.size + 6), .int 0, .int 0, .int 0]) (v := .ref (s.heap.size + 1)) rfl inX8 (by decide) wt2_24 rfl rfl (by decide +kernel) ?_
  refine lv_iconst (n := 0) (v := 0) c1 c2 (by decide +kernel) (by decide +kernel) ?_
  refine lv_bipush (n := 12) (v := 12) c1 c2 (by decide +kernel) (by decide +kernel) ?_
  refine cn_copy (L := [.inr (8, [.ref (s.heap.size + 1), .ref (s.heap.size + 2), .ref (s.heap.size + 3), .ref (s.heap.size + 4), .ref (s.heap.size + 5), .ref (s.heap.size + 6), .int 0, .int 0, .int 0]), .inl (wC w 0, (12, .inl (fun _ => 0))), .inl (wC w 0, (12, .inl (fun _ => 0))), .inl (wC w 0, (12, .inl (fun _ => 0))), .inl (wC w 0, (12, .inl (fun _ => 0))), .inl (wC w 0, (12, .inl (fun _ => 0))), .inl (wC w 0, ((rI σ 8 g 7).toNatClampNeg, .inl (va_cpy (rI σ 36 g) (fun _ => 0) (ix 0) (ix 0) (ix (rI σ 8 g 7)))))]) C p3 hL (q0 := wr w 31 g) (n0 := 12) (n1 := 12) (j := 1) (idx := 43) (f0 := rI σ 31 g) (f1 := (fun _ => 0)) (cn_old p3 rfl hO31) rfl (sp := 0) (dp := 0) (n := 12) (by unfold g_cok; decide) ⟨wt4_9, wt4_11, wt4_10, wt1_17⟩ (by decide) hlv.1 (Nat.le_of_ble_eq_true rfl) (by decide +kernel) (fun H4 L4 h4 hL => ?_)
  have p4 : cnH (wD w) s.heap s.heap.size [.inr (8, [.ref (s.heap.size + 1), .ref (s.heap.size + 2), .ref (s.heap.size + 3), .ref (s.heap.size + 4), .ref (s.heap.size + 5), .ref (s.heap.size + 6), .int 0, .int 0, .int 0]), .inl (wC w 0, (12, .inl (va_cpy (rI σ 31 g) (fun _ => 0) (ix 0) (ix 0) (ix 12)))), .inl (wC w 0, (12, .inl (fun _ => 0))), .inl (wC w 0, (12, .inl (fun _ => 0))), .inl (wC w 0, (12, .inl (fun _ => 0))), .inl (wC w 0, (12, .inl (fun _ => 0))), .inl (wC w 0, ((rI σ 8 g 7).toNatClampNeg, .inl (va_cpy (rI σ 36 g) (fun _ => 0) (ix 0) (ix 0) (ix (rI σ 8 g 7)))))] H4 := h4
  refine lv_aload_n (k := 0) c1 c2 (by decide +kernel) rfl (lv_at hlv 1 rfl) ?_
  refine va_get (C := RX8) (T := TX8) (N := 9) (ref := (TX8 1).1) (index := 15) c1 c2 c7 inX8 c6 c8 (cn_old p4 rfl hO) 0 rfl rfl 1 (by decide) (c7 _ wt2_28) (fun x h => h) rfl (by decide +kernel) ?_
  refine lv_iconst (n := 0) (v := 0) c1 c2 (by decide +kernel) (by decide +kernel) ?_
  refine lv_aload_n (k := 1) c1 c2 (by decide +kernel) rfl (lv_at hlv 0 rfl) ?_
  refine W.eq (g2 := F0 m 51 lsA (.ref (s.heap.size + 0) :: [.int 0, .ref (wr w 32 g)])) rfl ?_
  refine cn_get (L := [.inr (8, [.ref (s.heap.size + 1), .ref (s.heap.size + 2), .ref (s.heap.size + 3), .ref (s.heap.size + 4), .ref (s.heap.size + 5), .ref (s.heap.size + 6), .int 0, .int 0, .int 0]), .inl (wC w 0, (12, .inl (va_cpy (rI σ 31 g) (fun _ => 0) (ix 0) (ix 0) (ix 12)))), .inl (wC w 0, (12, .inl (fun _ => 0))), .inl (wC w 0, (12, .inl (fun _ => 0))), .inl (wC w 0, (12, .inl (fun _ => 0))), .inl (wC w 0, (12, .inl (fun _ => 0))), .inl (wC w 0, ((rI σ 8 g 7).toNatClampNeg, .inl (va_cpy (rI σ 36 g) (fun _ => 0) (ix 0) (ix 0) (ix (rI σ 8 g 7)))))]) C p4 (idx := 15) (ci := 8) (sl := 1) (N := 9) (j := 0) (Cn := RX8) (T := TX8) (fs := [.ref (s.heap.size + 1), .ref (s.heap.size + 2), .ref (s.heap.size + 3), .ref (s.heap.size + 4), .ref (s.heap.size + 5), .ref (s.heap.size + 6), .int 0, .int 0, .int 0]) (v := .ref (s.heap.size + 2)) rfl inX8 (by decide) wt2_28 rfl rfl (by decide +kernel) ?_
  refine lv_iconst (n := 0) (v := 0) c1 c2 (by decide +kernel) (by decide +kernel) ?_
  refine lv_bipush (n := 12) (v := 12) c1 c2 (by decide +kernel) (by decide +kernel) ?_
  refine cn_copy (L := [.inr (8, [.ref (s.heap.size + 1), .ref (s.heap.size + 2), .ref (s.heap.size + 3), .ref (s.heap.size + 4), .ref (s.heap.size + 5), .ref (s.heap.size + 6), .int 0, .int 0, .int 0]), .inl (wC w 0, (12, .inl (va_cpy (rI σ 31 g) (fun _ => 0) (ix 0) (ix 0) (ix 12)))), .inl (wC w 0, (12, .inl (fun _ => 0))), .inl (wC w 0, (12, .inl (fun _ => 0))), .inl (wC w 0, (12, .inl (fun _ => 0))), .inl (wC w 0, (12, .inl (fun _ => 0))), .inl (wC w 0, ((rI σ 8 g 7).toNatClampNeg, .inl (va_cpy (rI σ 36 g) (fun _ => 0) (ix 0) (ix 0) (ix (rI σ 8 g 7)))))]) C p4 hL (q0 := wr w 32 g) (n0 := 12) (n1 := 12) (j := 2) (idx := 43) (f0 := rI σ 32 g) (f1 := (fun _ => 0)) (cn_old p4 rfl hO32) rfl (sp := 0) (dp := 0) (n := 12) (by unfold g_cok; decide) ⟨wt4_9, wt4_11, wt4_10, wt1_17⟩ (by decide) hlv.1 (Nat.le_of_ble_eq_true rfl) (by decide +kernel) (fun H5 L5 h5 hL => ?_)
  have p5 : cnH (wD w) s.heap s.heap.size [.inr (8, [.ref (s.heap.size + 1), .ref (s.heap.size + 2), .ref (s.heap.size + 3), .ref (s.heap.size + 4), .ref (s.heap.size + 5), .ref (s.heap.size + 6), .int 0, .int 0, .int 0]), .inl (wC w 0, (12, .inl (va_cpy (rI σ 31 g) (fun _ => 0) (ix 0) (ix 0) (ix 12)))), .inl (wC w 0, (12, .inl (va_cpy (rI σ 32 g) (fun _ => 0) (ix 0) (ix 0) (ix 12)))), .inl (wC w 0, (12, .inl (fun _ => 0))), .inl (wC w 0, (12, .inl (fun _ => 0))), .inl (wC w 0, (12, .inl (fun _ => 0))), .inl (wC w 0, ((rI σ 8 g 7).toNatClampNeg, .inl (va_cpy (rI σ 36 g) (fun _ => 0) (ix 0) (ix 0) (ix (rI σ 8 g 7)))))] H5 := h5
  refine lv_aload_n (k := 0) c1 c2 (by decide +kernel) rfl (lv_at hlv 1 rfl) ?_
  refine va_get (C := RX8) (T := TX8) (N := 9) (ref := (TX8 2).1) (index := 18) c1 c2 c7 inX8 c6 c8 (cn_old p5 rfl hO) 0 rfl rfl 2 (by decide) (c7 _ wt2_31) (fun x h => h) rfl (by decide +kernel) ?_
  refine lv_iconst (n := 0) (v := 0) c1 c2 (by decide +kernel) (by decide +kernel) ?_
  refine lv_aload_n (k := 1) c1 c2 (by decide +kernel) rfl (lv_at hlv 0 rfl) ?_
  refine W.eq (g2 := F0 m 66 lsA (.ref (s.heap.size + 0) :: [.int 0, .ref (wr w 33 g)])) rfl ?_
  refine cn_get (L := [.inr (8, [.ref (s.heap.size + 1), .ref (s.heap.size + 2), .ref (s.heap.size + 3), .ref (s.heap.size + 4), .ref (s.heap.size + 5), .ref (s.heap.size + 6), .int 0, .int 0, .int 0]), .inl (wC w 0, (12, .inl (va_cpy (rI σ 31 g) (fun _ => 0) (ix 0) (ix 0) (ix 12)))), .inl (wC w 0, (12, .inl (va_cpy (rI σ 32 g) (fun _ => 0) (ix 0) (ix 0) (ix 12)))), .inl (wC w 0, (12, .inl (fun _ => 0))), .inl (wC w 0, (12, .inl (fun _ => 0))), .inl (wC w 0, (12, .inl (fun _ => 0))), .inl (wC w 0, ((rI σ 8 g 7).toNatClampNeg, .inl (va_cpy (rI σ 36 g) (fun _ => 0) (ix 0) (ix 0) (ix (rI σ 8 g 7)))))]) C p5 (idx := 18) (ci := 8) (sl := 2) (N := 9) (j := 0) (Cn := RX8) (T := TX8) (fs := [.ref (s.heap.size + 1), .ref (s.heap.size + 2), .ref (s.heap.size + 3), .ref (s.heap.size + 4), .ref (s.heap.size + 5), .ref (s.heap.size + 6), .int 0, .int 0, .int 0]) (v := .ref (s.heap.size + 3)) rfl inX8 (by decide) wt2_31 rfl rfl (by decide +kernel) ?_
  refine lv_iconst (n := 0) (v := 0) c1 c2 (by decide +kernel) (by decide +kernel) ?_
  refine lv_bipush (n := 12) (v := 12) c1 c2 (by decide +kernel) (by decide +kernel) ?_
  refine cn_copy (L := [.inr (8, [.ref (s.heap.size + 1), .ref (s.heap.size + 2), .ref (s.heap.size + 3), .ref (s.heap.size + 4), .ref (s.heap.size + 5), .ref (s.heap.size + 6), .int 0, .int 0, .int 0]), .inl (wC w 0, (12, .inl (va_cpy (rI σ 31 g) (fun _ => 0) (ix 0) (ix 0) (ix 12)))), .inl (wC w 0, (12, .inl (va_cpy (rI σ 32 g) (fun _ => 0) (ix 0) (ix 0) (ix 12)))), .inl (wC w 0, (12, .inl (fun _ => 0))), .inl (wC w 0, (12, .inl (fun _ => 0))), .inl (wC w 0, (12, .inl (fun _ => 0))), .inl (wC w 0, ((rI σ 8 g 7).toNatClampNeg, .inl (va_cpy (rI σ 36 g) (fun _ => 0) (ix 0) (ix 0) (ix (rI σ 8 g 7)))))]) C p5 hL (q0 := wr w 33 g) (n0 := 12) (n1 := 12) (j := 3) (idx := 43) (f0 := rI σ 33 g) (f1 := (fun _ => 0)) (cn_old p5 rfl hO33) rfl (sp := 0) (dp := 0) (n := 12) (by unfold g_cok; decide) ⟨wt4_9, wt4_11, wt4_10, wt1_17⟩ (by decide) hlv.1 (Nat.le_of_ble_eq_true rfl) (by decide +kernel) (fun H6 L6 h6 hL => ?_)
  have p6 : cnH (wD w) s.heap s.heap.size [.inr (8, [.ref (s.heap.size + 1), .ref (s.heap.size + 2), .ref (s.heap.size + 3), .ref (s.heap.size + 4), .ref (s.heap.size + 5), .ref (s.heap.size + 6), .int 0, .int 0, .int 0]), .inl (wC w 0, (12, .inl (va_cpy (rI σ 31 g) (fun _ => 0) (ix 0) (ix 0) (ix 12)))), .inl (wC w 0, (12, .inl (va_cpy (rI σ 32 g) (fun _ => 0) (ix 0) (ix 0) (ix 12)))), .inl (wC w 0, (12, .inl (va_cpy (rI σ 33 g) (fun _ => 0) (ix 0) (ix 0) (ix 12)))), .inl (wC w 0, (12, .inl (fun _ => 0))), .inl (wC w 0, (12, .inl (fun _ => 0))), .inl (wC w 0, ((rI σ 8 g 7).toNatClampNeg, .inl (va_cpy (rI σ 36 g) (fun _ => 0) (ix 0) (ix 0) (ix (rI σ 8 g 7)))))] H6 := h6
  refine lv_aload_n (k := 0) c1 c2 (by decide +kernel) rfl (lv_at hlv 1 rfl) ?_
  refine va_get (C := RX8) (T := TX8) (N := 9) (ref := (TX8 3).1) (index := 21) c1 c2 c7 inX8 c6 c8 (cn_old p6 rfl hO) 0 rfl rfl 3 (by decide) (c7 _ wt2_35) (fun x h => h) rfl (by decide +kernel) ?_
  refine lv_iconst (n := 0) (v := 0) c1 c2 (by decide +kernel) (by decide +kernel) ?_
  refine lv_aload_n (k := 1) c1 c2 (by decide +kernel) rfl (lv_at hlv 0 rfl) ?_
  refine W.eq (g2 := F0 m 81 lsA (.ref (s.heap.size + 0) :: [.int 0, .ref (wr w 34 g)])) rfl ?_
  refine cn_get (L := [.inr (8, [.ref (s.heap.size + 1), .ref (s.heap.size + 2), .ref (s.heap.size + 3), .ref (s.heap.size + 4), .ref (s.heap.size + 5), .ref (s.heap.size + 6), .int 0, .int 0, .int 0]), .inl (wC w 0, (12, .inl (va_cpy (rI σ 31 g) (fun _ => 0) (ix 0) (ix 0) (ix 12)))), .inl (wC w 0, (12, .inl (va_cpy (rI σ 32 g) (fun _ => 0) (ix 0) (ix 0) (ix 12)))), .inl (wC w 0, (12, .inl (va_cpy (rI σ 33 g) (fun _ => 0) (ix 0) (ix 0) (ix 12)))), .inl (wC w 0, (12, .inl (fun _ => 0))), .inl (wC w 0, (12, .inl (fun _ => 0))), .inl (wC w 0, ((rI σ 8 g 7).toNatClampNeg, .inl (va_cpy (rI σ 36 g) (fun _ => 0) (ix 0) (ix 0) (ix (rI σ 8 g 7)))))]) C p6 (idx := 21) (ci := 8) (sl := 3) (N := 9) (j := 0) (Cn := RX8) (T := TX8) (fs := [.ref (s.heap.size + 1), .ref (s.heap.size + 2), .ref (s.heap.size + 3), .ref (s.heap.size + 4), .ref (s.heap.size + 5), .ref (s.heap.size + 6), .int 0, .int 0, .int 0]) (v := .ref (s.heap.size + 4)) rfl inX8 (by decide) wt2_35 rfl rfl (by decide +kernel) ?_
  refine lv_iconst (n := 0) (v := 0) c1 c2 (by decide +kernel) (by decide +kernel) ?_
  refine lv_bipush (n := 12) (v := 12) c1 c2 (by decide +kernel) (by decide +kernel) ?_
  refine cn_copy (L := [.inr (8, [.ref (s.heap.size + 1), .ref (s.heap.size + 2), .ref (s.heap.size + 3), .ref (s.heap.size + 4), .ref (s.heap.size + 5), .ref (s.heap.size + 6), .int 0, .int 0, .int 0]), .inl (wC w 0, (12, .inl (va_cpy (rI σ 31 g) (fun _ => 0) (ix 0) (ix 0) (ix 12)))), .inl (wC w 0, (12, .inl (va_cpy (rI σ 32 g) (fun _ => 0) (ix 0) (ix 0) (ix 12)))), .inl (wC w 0, (12, .inl (va_cpy (rI σ 33 g) (fun _ => 0) (ix 0) (ix 0) (ix 12)))), .inl (wC w 0, (12, .inl (fun _ => 0))), .inl (wC w 0, (12, .inl (fun _ => 0))), .inl (wC w 0, ((rI σ 8 g 7).toNatClampNeg, .inl (va_cpy (rI σ 36 g) (fun _ => 0) (ix 0) (ix 0) (ix (rI σ 8 g 7)))))]) C p6 hL (q0 := wr w 34 g) (n0 := 12) (n1 := 12) (j := 4) (idx := 43) (f0 := rI σ 34 g) (f1 := (fun _ => 0)) (cn_old p6 rfl hO34) rfl (sp := 0) (dp := 0) (n := 12) (by unfold g_cok; decide) ⟨wt4_9, wt4_11, wt4_10, wt1_17⟩ (by decide) hlv.1 (Nat.le_of_ble_eq_true rfl) (by decide +kernel) (fun H7 L7 h7 hL => ?_)
  have p7 : cnH (wD w) s.heap s.heap.size [.inr (8, [.ref (s.heap.size + 1), .ref (s.heap.size + 2), .ref (s.heap.size + 3), .ref (s.heap.size + 4), .ref (s.heap.size + 5), .ref (s.heap.size + 6), .int 0, .int 0, .int 0]), .inl (wC w 0, (12, .inl (va_cpy (rI σ 31 g) (fun _ => 0) (ix 0) (ix 0) (ix 12)))), .inl (wC w 0, (12, .inl (va_cpy (rI σ 32 g) (fun _ => 0) (ix 0) (ix 0) (ix 12)))), .inl (wC w 0, (12, .inl (va_cpy (rI σ 33 g) (fun _ => 0) (ix 0) (ix 0) (ix 12)))), .inl (wC w 0, (12, .inl (va_cpy (rI σ 34 g) (fun _ => 0) (ix 0) (ix 0) (ix 12)))), .inl (wC w 0, (12, .inl (fun _ => 0))), .inl (wC w 0, ((rI σ 8 g 7).toNatClampNeg, .inl (va_cpy (rI σ 36 g) (fun _ => 0) (ix 0) (ix 0) (ix (rI σ 8 g 7)))))] H7 := h7
  refine lv_aload_n (k := 0) c1 c2 (by decide +kernel) rfl (lv_at hlv 1 rfl) ?_
  refine va_get (C := RX8) (T := TX8) (N := 9) (ref := (TX8 4).1) (index := 24) c1 c2 c7 inX8 c6 c8 (cn_old p7 rfl hO) 0 rfl rfl 4 (by decide) (c7 _ wt2_38) (fun x h => h) rfl (by decide +kernel) ?_
  refine lv_iconst (n := 0) (v := 0) c1 c2 (by decide +kernel) (by decide +kernel) ?_
  refine lv_aload_n (k := 1) c1 c2 (by decide +kernel) rfl (lv_at hlv 0 rfl) ?_
  refine W.eq (g2 := F0 m 96 lsA (.ref (s.heap.size + 0) :: [.int 0, .ref (wr w 35 g)])) rfl ?_
  refine cn_get (L := [.inr (8, [.ref (s.heap.size + 1), .ref (s.heap.size + 2), .ref (s.heap.size + 3), .ref (s.heap.size + 4), .ref (s.heap.size + 5), .ref (s.heap.size + 6), .int 0, .int 0, .int 0]), .inl (wC w 0, (12, .inl (va_cpy (rI σ 31 g) (fun _ => 0) (ix 0) (ix 0) (ix 12)))), .inl (wC w 0, (12, .inl (va_cpy (rI σ 32 g) (fun _ => 0) (ix 0) (ix 0) (ix 12)))), .inl (wC w 0, (12, .inl (va_cpy (rI σ 33 g) (fun _ => 0) (ix 0) (ix 0) (ix 12)))), .inl (wC w 0, (12, .inl (va_cpy (rI σ 34 g) (fun _ => 0) (ix 0) (ix 0) (ix 12)))), .inl (wC w 0, (12, .inl (fun _ => 0))), .inl (wC w 0, ((rI σ 8 g 7).toNatClampNeg, .inl (va_cpy (rI σ 36 g) (fun _ => 0) (ix 0) (ix 0) (ix (rI σ 8 g 7)))))]) C p7 (idx := 24) (ci := 8) (sl := 4) (N := 9) (j := 0) (Cn := RX8) (T := TX8) (fs := [.ref (s.heap.size + 1), .ref (s.heap.size + 2), .ref (s.heap.size + 3), .ref (s.heap.size + 4), .ref (s.heap.size + 5), .ref (s.heap.size + 6), .int 0, .int 0, .int 0]) (v := .ref (s.heap.size + 5)) rfl inX8 (by decide) wt2_38 rfl rfl (by decide +kernel) ?_
  refine lv_iconst (n := 0) (v := 0) c1 c2 (by decide +kernel) (by decide +kernel) ?_
  refine lv_bipush (n := 12) (v := 12) c1 c2 (by decide +kernel) (by decide +kernel) ?_
  refine cn_copy (L := [.inr (8, [.ref (s.heap.size + 1), .ref (s.heap.size + 2), .ref (s.heap.size + 3), .ref (s.heap.size + 4), .ref (s.heap.size + 5), .ref (s.heap.size + 6), .int 0, .int 0, .int 0]), .inl (wC w 0, (12, .inl (va_cpy (rI σ 31 g) (fun _ => 0) (ix 0) (ix 0) (ix 12)))), .inl (wC w 0, (12, .inl (va_cpy (rI σ 32 g) (fun _ => 0) (ix 0) (ix 0) (ix 12)))), .inl (wC w 0, (12, .inl (va_cpy (rI σ 33 g) (fun _ => 0) (ix 0) (ix 0) (ix 12)))), .inl (wC w 0, (12, .inl (va_cpy (rI σ 34 g) (fun _ => 0) (ix 0) (ix 0) (ix 12)))), .inl (wC w 0, (12, .inl (fun _ => 0))), .inl (wC w 0, ((rI σ 8 g 7).toNatClampNeg, .inl (va_cpy (rI σ 36 g) (fun _ => 0) (ix 0) (ix 0) (ix (rI σ 8 g 7)))))]) C p7 hL (q0 := wr w 35 g) (n0 := 12) (n1 := 12) (j := 5) (idx := 43) (f0 := rI σ 35 g) (f1 := (fun _ => 0)) (cn_old p7 rfl hO35) rfl (sp := 0) (dp := 0) (n := 12) (by unfold g_cok; decide) ⟨wt4_9, wt4_11, wt4_10, wt1_17⟩ (by decide) hlv.1 (Nat.le_of_ble_eq_true rfl) (by decide +kernel) (fun H8 L8 h8 hL => ?_)
  have p8 : cnH (wD w) s.heap s.heap.size [.inr (8, [.ref (s.heap.size + 1), .ref (s.heap.size + 2), .ref (s.heap.size + 3), .ref (s.heap.size + 4), .ref (s.heap.size + 5), .ref (s.heap.size + 6), .int 0, .int 0, .int 0]), .inl (wC w 0, (12, .inl (va_cpy (rI σ 31 g) (fun _ => 0) (ix 0) (ix 0) (ix 12)))), .inl (wC w 0, (12, .inl (va_cpy (rI σ 32 g) (fun _ => 0) (ix 0) (ix 0) (ix 12)))), .inl (wC w 0, (12, .inl (va_cpy (rI σ 33 g) (fun _ => 0) (ix 0) (ix 0) (ix 12)))), .inl (wC w 0, (12, .inl (va_cpy (rI σ 34 g) (fun _ => 0) (ix 0) (ix 0) (ix 12)))), .inl (wC w 0, (12, .inl (va_cpy (rI σ 35 g) (fun _ => 0) (ix 0) (ix 0) (ix 12)))), .inl (wC w 0, ((rI σ 8 g 7).toNatClampNeg, .inl (va_cpy (rI σ 36 g) (fun _ => 0) (ix 0) (ix 0) (ix (rI σ 8 g 7)))))] H8 := h8
  refine lv_aload_n (k := 1) c1 c2 (by decide +kernel) rfl (lv_at hlv 0 rfl) ?_
  refine lv_aload_n (k := 0) c1 c2 (by decide +kernel) rfl (lv_at hlv 1 rfl) ?_
  refine va_get (C := RX8) (T := TX8) (N := 9) (ref := (TX8 6).1) (index := 49) c1 c2 c7 inX8 c6 c8 (cn_old p8 rfl hO) 0 rfl rfl 6 (by decide) (c7 _ wt2_44) (fun x h => h) rfl (by decide +kernel) ?_
  refine cn_put (L := [.inr (8, [.ref (s.heap.size + 1), .ref (s.heap.size + 2), .ref (s.heap.size + 3), .ref (s.heap.size + 4), .ref (s.heap.size + 5), .ref (s.heap.size + 6), .int 0, .int 0, .int 0]), .inl (wC w 0, (12, .inl (va_cpy (rI σ 31 g) (fun _ => 0) (ix 0) (ix 0) (ix 12)))), .inl (wC w 0, (12, .inl (va_cpy (rI σ 32 g) (fun _ => 0) (ix 0) (ix 0) (ix 12)))), .inl (wC w 0, (12, .inl (va_cpy (rI σ 33 g) (fun _ => 0) (ix 0) (ix 0) (ix 12)))), .inl (wC w 0, (12, .inl (va_cpy (rI σ 34 g) (fun _ => 0) (ix 0) (ix 0) (ix 12)))), .inl (wC w 0, (12, .inl (va_cpy (rI σ 35 g) (fun _ => 0) (ix 0) (ix 0) (ix 12)))), .inl (wC w 0, ((rI σ 8 g 7).toNatClampNeg, .inl (va_cpy (rI σ 36 g) (fun _ => 0) (ix 0) (ix 0) (ix (rI σ 8 g 7)))))]) C p8 hL (idx := 49) (ci := 8) (sl := 6) (N := 9) (ty := .int) (fs := [.ref (s.heap.size + 1), .ref (s.heap.size + 2), .ref (s.heap.size + 3), .ref (s.heap.size + 4), .ref (s.heap.size + 5), .ref (s.heap.size + 6), .int 0, .int 0, .int 0]) (fun T hT hf => by cases hT; cases hf) ⟨by decide, TX8, tyX8, rfl, inX8, wt2_44, tyX8_ok, nmX8, rfl, tyX8_ok 6 (by decide)⟩ rfl rfl rfl rfl (by decide +kernel) (fun H9 L9 h9 hL => ?_)
  have p9 : cnH (wD w) s.heap s.heap.size [.inr (8, [.ref (s.heap.size + 1), .ref (s.heap.size + 2), .ref (s.heap.size + 3), .ref (s.heap.size + 4), .ref (s.heap.size + 5), .ref (s.heap.size + 6), .int (rI σ 8 g 6), .int 0, .int 0]), .inl (wC w 0, (12, .inl (va_cpy (rI σ 31 g) (fun _ => 0) (ix 0) (ix 0) (ix 12)))), .inl (wC w 0, (12, .inl (va_cpy (rI σ 32 g) (fun _ => 0) (ix 0) (ix 0) (ix 12)))), .inl (wC w 0, (12, .inl (va_cpy (rI σ 33 g) (fun _ => 0) (ix 0) (ix 0) (ix 12)))), .inl (wC w 0, (12, .inl (va_cpy (rI σ 34 g) (fun _ => 0) (ix 0) (ix 0) (ix 12)))), .inl (wC w 0, (12, .inl (va_cpy (rI σ 35 g) (fun _ => 0) (ix 0) (ix 0) (ix 12)))), .inl (wC w 0, ((rI σ 8 g 7).toNatClampNeg, .inl (va_cpy (rI σ 36 g) (fun _ => 0) (ix 0) (ix 0) (ix (rI σ 8 g 7)))))] H9 := h9
  refine lv_aload_n (k := 1) c1 c2 (by decide +kernel) rfl (lv_at hlv 0 rfl) ?_
  refine lv_aload_n (k := 0) c1 c2 (by decide +kernel) rfl (lv_at hlv 1 rfl) ?_
  refine va_get (C := RX8) (T := TX8) (N := 9) (ref := (TX8 7).1) (index := 36) c1 c2 c7 inX8 c6 c8 (cn_old p9 rfl hO) 0 rfl rfl 7 (by decide) (c7 _ wt2_48) (fun x h => h) rfl (by decide +kernel) ?_
  refine cn_put (L := [.inr (8, [.ref (s.heap.size + 1), .ref (s.heap.size + 2), .ref (s.heap.size + 3), .ref (s.heap.size + 4), .ref (s.heap.size + 5), .ref (s.heap.size + 6), .int (rI σ 8 g 6), .int 0, .int 0]), .inl (wC w 0, (12, .inl (va_cpy (rI σ 31 g) (fun _ => 0) (ix 0) (ix 0) (ix 12)))), .inl (wC w 0, (12, .inl (va_cpy (rI σ 32 g) (fun _ => 0) (ix 0) (ix 0) (ix 12)))), .inl (wC w 0, (12, .inl (va_cpy (rI σ 33 g) (fun _ => 0) (ix 0) (ix 0) (ix 12)))), .inl (wC w 0, (12, .inl (va_cpy (rI σ 34 g) (fun _ => 0) (ix 0) (ix 0) (ix 12)))), .inl (wC w 0, (12, .inl (va_cpy (rI σ 35 g) (fun _ => 0) (ix 0) (ix 0) (ix 12)))), .inl (wC w 0, ((rI σ 8 g 7).toNatClampNeg, .inl (va_cpy (rI σ 36 g) (fun _ => 0) (ix 0) (ix 0) (ix (rI σ 8 g 7)))))]) C p9 hL (idx := 36) (ci := 8) (sl := 7) (N := 9) (ty := .int) (fs := [.ref (s.heap.size + 1), .ref (s.heap.size + 2), .ref (s.heap.size + 3), .ref (s.heap.size + 4), .ref (s.heap.size + 5), .ref (s.heap.size + 6), .int (rI σ 8 g 6), .int 0, .int 0]) (fun T hT hf => by cases hT; cases hf) ⟨by decide, TX8, tyX8, rfl, inX8, wt2_48, tyX8_ok, nmX8, rfl, tyX8_ok 7 (by decide)⟩ rfl rfl rfl rfl (by decide +kernel) (fun H10 L10 h10 hL => ?_)
  have p10 : cnH (wD w) s.heap s.heap.size [.inr (8, [.ref (s.heap.size + 1), .ref (s.heap.size + 2), .ref (s.heap.size + 3), .ref (s.heap.size + 4), .ref (s.heap.size + 5), .ref (s.heap.size + 6), .int (rI σ 8 g 6), .int (rI σ 8 g 7), .int 0]), .inl (wC w 0, (12, .inl (va_cpy (rI σ 31 g) (fun _ => 0) (ix 0) (ix 0) (ix 12)))), .inl (wC w 0, (12, .inl (va_cpy (rI σ 32 g) (fun _ => 0) (ix 0) (ix 0) (ix 12)))), .inl (wC w 0, (12, .inl (va_cpy (rI σ 33 g) (fun _ => 0) (ix 0) (ix 0) (ix 12)))), .inl (wC w 0, (12, .inl (va_cpy (rI σ 34 g) (fun _ => 0) (ix 0) (ix 0) (ix 12)))), .inl (wC w 0, (12, .inl (va_cpy (rI σ 35 g) (fun _ => 0) (ix 0) (ix 0) (ix 12)))), .inl (wC w 0, ((rI σ 8 g 7).toNatClampNeg, .inl (va_cpy (rI σ 36 g) (fun _ => 0) (ix 0) (ix 0) (ix (rI σ 8 g 7)))))] H10 := h10
  refine lv_aload_n (k := 1) c1 c2 (by decide +kernel) rfl (lv_at hlv 0 rfl) ?_
  refine lv_aload_n (k := 0) c1 c2 (by decide +kernel) rfl (lv_at hlv 1 rfl) ?_
  refine va_get (C := RX8) (T := TX8) (N := 9) (ref := (TX8 8).1) (index := 52) c1 c2 c7 inX8 c6 c8 (cn_old p10 rfl hO) 0 rfl rfl 8 (by decide) (c7 _ wt2_50) (fun x h => h) rfl (by decide +kernel) ?_
  refine cn_put (L := [.inr (8, [.ref (s.heap.size + 1), .ref (s.heap.size + 2), .ref (s.heap.size + 3), .ref (s.heap.size + 4), .ref (s.heap.size + 5), .ref (s.heap.size + 6), .int (rI σ 8 g 6), .int (rI σ 8 g 7), .int 0]), .inl (wC w 0, (12, .inl (va_cpy (rI σ 31 g) (fun _ => 0) (ix 0) (ix 0) (ix 12)))), .inl (wC w 0, (12, .inl (va_cpy (rI σ 32 g) (fun _ => 0) (ix 0) (ix 0) (ix 12)))), .inl (wC w 0, (12, .inl (va_cpy (rI σ 33 g) (fun _ => 0) (ix 0) (ix 0) (ix 12)))), .inl (wC w 0, (12, .inl (va_cpy (rI σ 34 g) (fun _ => 0) (ix 0) (ix 0) (ix 12)))), .inl (wC w 0, (12, .inl (va_cpy (rI σ 35 g) (fun _ => 0) (ix 0) (ix 0) (ix 12)))), .inl (wC w 0, ((rI σ 8 g 7).toNatClampNeg, .inl (va_cpy (rI σ 36 g) (fun _ => 0) (ix 0) (ix 0) (ix (rI σ 8 g 7)))))]) C p10 hL (idx := 52) (ci := 8) (sl := 8) (N := 9) (ty := .boolean) (fs := [.ref (s.heap.size + 1), .ref (s.heap.size + 2), .ref (s.heap.size + 3), .ref (s.heap.size + 4), .ref (s.heap.size + 5), .ref (s.heap.size + 6), .int (rI σ 8 g 6), .int (rI σ 8 g 7), .int 0]) (fun T hT hf => by cases hT; cases hf) ⟨by decide, TX8, tyX8, rfl, inX8, wt2_50, tyX8_ok, nmX8, rfl, tyX8_ok 8 (by decide)⟩ rfl rfl (by rcases hB with z | z <;> rw [z] <;> rfl) (by rcases hB with z | z <;> rw [z] <;> rfl) (by decide +kernel) (fun H11 L11 h11 hL => ?_)
  have p11 : cnH (wD w) s.heap s.heap.size [.inr (8, [.ref (s.heap.size + 1), .ref (s.heap.size + 2), .ref (s.heap.size + 3), .ref (s.heap.size + 4), .ref (s.heap.size + 5), .ref (s.heap.size + 6), .int (rI σ 8 g 6), .int (rI σ 8 g 7), .int (rI σ 8 g 8)]), .inl (wC w 0, (12, .inl (va_cpy (rI σ 31 g) (fun _ => 0) (ix 0) (ix 0) (ix 12)))), .inl (wC w 0, (12, .inl (va_cpy (rI σ 32 g) (fun _ => 0) (ix 0) (ix 0) (ix 12)))), .inl (wC w 0, (12, .inl (va_cpy (rI σ 33 g) (fun _ => 0) (ix 0) (ix 0) (ix 12)))), .inl (wC w 0, (12, .inl (va_cpy (rI σ 34 g) (fun _ => 0) (ix 0) (ix 0) (ix 12)))), .inl (wC w 0, (12, .inl (va_cpy (rI σ 35 g) (fun _ => 0) (ix 0) (ix 0) (ix 12)))), .inl (wC w 0, ((rI σ 8 g 7).toNatClampNeg, .inl (va_cpy (rI σ 36 g) (fun _ => 0) (ix 0) (ix 0) (ix (rI σ 8 g 7)))))] H11 := h11
  refine lv_aload_n (k := 1) c1 c2 (by decide +kernel) rfl (lv_at hlv 0 rfl) ?_
  have hRf := tr_Rep hw hwf hk8 hn0 hR p11
  have hA := (hw.1.2 hk8 (g_nT σ) (hwf.1 hk8)).2.2.2
  refine W.widen (k := 7) (n := 600) (by decide) (by decide) ?_
  refine W.aret (v := .ref s.heap.size) c1 c2 B.returns (Or.inl ⟨_, rfl⟩) (Or.inr ⟨_, rfl⟩) (fun t ht _ => ?_) (fun q hq => hA _ (by rw [← hR.1]; exact hL q hq)) (by decide +kernel) c5
  refine ⟨?_, by rw [ht]; exact hRf, ⟨by rw [ht, p11.1]; exact Nat.le_add_right _ _, fun q hq _ => by rw [ht]; exact p11.2.1 q hq⟩, tr_wf hwf, fun x hx => ?_, by rw [tr_nT]; omega, by rw [tr_nT]; exact Nat.le_refl _⟩
  · show Outcome.returned (some (.ref s.heap.size)) = .returned (some (.ref (wr w 8 (g_nT σ))))
    rw [(hw.1.2 hk8 (g_nT σ) (hwf.1 hk8)).1, ← hR.1]
  · cases hx
    refine ⟨hk8, ?_⟩
    show g_nT σ < g_nT (trS σ g)
    rw [tr_nT]
    exact Nat.lt_succ_self _
