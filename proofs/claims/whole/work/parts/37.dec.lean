/-! DECODING by the bytes that stand there: a row an opcode, once for all methods -/
def g_bs (code : ByteArray) (L : List Nat) : Prop := code.data.toList.map UInt8.toNat = L
def g_B (code : ByteArray) (pc b : Nat) : Prop := ∃ h : pc < code.size, (code[pc]'h).toNat = b
theorem g_B_of {code : ByteArray} {L : List Nat} {pc b : Nat} (hL : g_bs code L) (h : L[pc]? = some b) : g_B code pc b := by
  unfold g_bs at hL
  rw [← hL, List.getElem?_map] at h
  cases e : code.data.toList[pc]? with
  | none => rw [e] at h; cases h
  | some x =>
    rw [e] at h
    cases h
    obtain ⟨h1, h2⟩ := List.getElem?_eq_some_iff.mp e
    exact ⟨by simpa using h1, by rw [← h2]; rfl⟩
theorem g_u1 {code : ByteArray} {pc b : Nat} (h : g_B code pc b) : (Reader.u1 : Decoder Nat) code pc = .ok (b, pc + 1) := by
  obtain ⟨h1, h2⟩ := h
  show (dite _ _ _ : Decoder Nat) code pc = _
  rw [dif_pos h1]
  show Except.ok ((code[pc]'h1).toNat, pc + 1) = _
  rw [h2]
theorem g_B3 {code : ByteArray} {L : List Nat} {pc a b c : Nat} (hL : g_bs code L) (h : (L.drop pc).take 3 = [a, b, c]) : g_B code pc a ∧ g_B code (pc + 1) b ∧ g_B code (pc + 2) c := by
  have e : ∀ i x, i < 3 → [a, b, c][i]? = some x → L[pc + i]? = some x := by
    intro i x hi hx
    rw [← h, List.getElem?_take_of_lt hi, List.getElem?_drop] at hx
    exact hx
  exact ⟨g_B_of hL (e 0 a (by omega) rfl), g_B_of hL (e 1 b (by omega) rfl), g_B_of hL (e 2 c (by omega) rfl)⟩
theorem g_B2 {code : ByteArray} {L : List Nat} {pc a b : Nat} (hL : g_bs code L) (h : (L.drop pc).take 2 = [a, b]) : g_B code pc a ∧ g_B code (pc + 1) b := by
  have e : ∀ i x, i < 2 → [a, b][i]? = some x → L[pc + i]? = some x := by
    intro i x hi hx
    rw [← h, List.getElem?_take_of_lt hi, List.getElem?_drop] at hx
    exact hx
  exact ⟨g_B_of hL (e 0 a (by omega) rfl), g_B_of hL (e 1 b (by omega) rfl)⟩
theorem g_bind {α β : Type} {x : Decoder α} {k : α → Decoder β} {code : ByteArray} {p p' : Nat} {a : α} (h : x code p = .ok (a, p')) : (x >>= k) code p = k a code p' := by
  simp only [Bind.bind, ReaderT.bind, StateT.bind, Except.bind, h]
theorem g_map {α β : Type} {x : Decoder α} {f : α → β} {code : ByteArray} {p p' : Nat} {a : α} (h : x code p = .ok (a, p')) : (f <$> x : Decoder β) code p = .ok (f a, p') := by
  show (StateT.map f (x code)) p = _
  simp only [StateT.map, Bind.bind, Except.bind, h]
  rfl
theorem g_u2 {code : ByteArray} {pc a b : Nat} (h1 : g_B code pc a) (h2 : g_B code (pc + 1) b) : (Reader.u2 : Decoder Nat) code pc = .ok (a * 256 + b, pc + 2) := by
  unfold Reader.u2
  exact (g_bind (g_u1 h1)).trans ((g_bind (g_u1 h2)).trans rfl)
theorem g_bd {α : Type} {code : ByteArray} {pc b : Nat} (h : g_B code pc b) (k : Nat → Decoder α) : ((Reader.u1 : Decoder Nat) >>= k) code pc = k b code (pc + 1) := g_bind (g_u1 h)
theorem g_bd2 {α : Type} {code : ByteArray} {pc a b : Nat} (h1 : g_B code pc a) (h2 : g_B code (pc + 1) b) (k : Nat → Decoder α) : ((Reader.u2 : Decoder Nat) >>= k) code pc = k (a * 256 + b) code (pc + 2) := g_bind (g_u2 h1 h2)
theorem g_s2 {code : ByteArray} {pc a b : Nat} (h1 : g_B code pc a) (h2 : g_B code (pc + 1) b) : (Reader.s2 : Decoder Int) code pc = .ok (Reader.signed 16 (a * 256 + b), pc + 2) := g_map (g_u2 h1 h2)
theorem g_s1 {code : ByteArray} {pc a : Nat} (h1 : g_B code pc a) : (Reader.s1 : Decoder Int) code pc = .ok (Reader.signed 8 a, pc + 1) := g_map (g_u1 h1)
theorem g_bds2 {α : Type} {code : ByteArray} {pc a b : Nat} (h1 : g_B code pc a) (h2 : g_B code (pc + 1) b) (k : Int → Decoder α) : ((Reader.s2 : Decoder Int) >>= k) code pc = k (Reader.signed 16 (a * 256 + b)) code (pc + 2) := g_bind (g_s2 h1 h2)
theorem g_bds1 {α : Type} {code : ByteArray} {pc a : Nat} (h1 : g_B code pc a) (k : Int → Decoder α) : ((Reader.s1 : Decoder Int) >>= k) code pc = k (Reader.signed 8 a) code (pc + 1) := g_bind (g_s1 h1)
theorem g_dec {code : ByteArray} {pc n : Nat} {i : Instr} {len : Nat} (h : Decoder.instr pc code pc = .ok (i, n)) (hl : n = pc + len) : decode code pc = .ok (i, len) := by
  have e : (Decoder.instr pc).runAt code pc = .ok (i, n) := h
  unfold decode
  rw [e]
  show Except.ok (i, n - pc) = _
  rw [hl, Nat.add_sub_cancel_left]
/-- the decoder, its first byte read -/
theorem g_ins {code : ByteArray} {pc b : Nat} (h : g_B code pc b) {k : Nat → Decoder Instr} (hk : Decoder.instr pc = (Reader.u1 >>= k)) : Decoder.instr pc code pc = k b code (pc + 1) := by
  rw [hk]
  exact g_bd h k
theorem dc1 {code : ByteArray} {L : List Nat} {pc : Nat} (hL : g_bs code L) (h : L[pc]? = some 1) : decode code pc = .ok (.aconst_null, 1) := g_dec ((g_ins (g_B_of hL h) rfl).trans rfl) rfl
theorem dc2 {code : ByteArray} {L : List Nat} {pc : Nat} (hL : g_bs code L) (h : L[pc]? = some 2) : decode code pc = .ok ((.iconst (-1)), 1) := g_dec ((g_ins (g_B_of hL h) rfl).trans rfl) rfl
theorem dc3 {code : ByteArray} {L : List Nat} {pc : Nat} (hL : g_bs code L) (h : L[pc]? = some 3) : decode code pc = .ok ((.iconst 0), 1) := g_dec ((g_ins (g_B_of hL h) rfl).trans rfl) rfl
theorem dc4 {code : ByteArray} {L : List Nat} {pc : Nat} (hL : g_bs code L) (h : L[pc]? = some 4) : decode code pc = .ok ((.iconst 1), 1) := g_dec ((g_ins (g_B_of hL h) rfl).trans rfl) rfl
theorem dc5 {code : ByteArray} {L : List Nat} {pc : Nat} (hL : g_bs code L) (h : L[pc]? = some 5) : decode code pc = .ok ((.iconst 2), 1) := g_dec ((g_ins (g_B_of hL h) rfl).trans rfl) rfl
theorem dc6 {code : ByteArray} {L : List Nat} {pc : Nat} (hL : g_bs code L) (h : L[pc]? = some 6) : decode code pc = .ok ((.iconst 3), 1) := g_dec ((g_ins (g_B_of hL h) rfl).trans rfl) rfl
theorem dc7 {code : ByteArray} {L : List Nat} {pc : Nat} (hL : g_bs code L) (h : L[pc]? = some 7) : decode code pc = .ok ((.iconst 4), 1) := g_dec ((g_ins (g_B_of hL h) rfl).trans rfl) rfl
theorem dc8 {code : ByteArray} {L : List Nat} {pc : Nat} (hL : g_bs code L) (h : L[pc]? = some 8) : decode code pc = .ok ((.iconst 5), 1) := g_dec ((g_ins (g_B_of hL h) rfl).trans rfl) rfl
theorem dc9 {code : ByteArray} {L : List Nat} {pc : Nat} (hL : g_bs code L) (h : L[pc]? = some 9) : decode code pc = .ok ((.lconst 0), 1) := g_dec ((g_ins (g_B_of hL h) rfl).trans rfl) rfl
theorem dc10 {code : ByteArray} {L : List Nat} {pc : Nat} (hL : g_bs code L) (h : L[pc]? = some 10) : decode code pc = .ok ((.lconst 1), 1) := g_dec ((g_ins (g_B_of hL h) rfl).trans rfl) rfl
theorem dc26 {code : ByteArray} {L : List Nat} {pc : Nat} (hL : g_bs code L) (h : L[pc]? = some 26) : decode code pc = .ok ((.iload_n 0), 1) := g_dec ((g_ins (g_B_of hL h) rfl).trans rfl) rfl
theorem dc27 {code : ByteArray} {L : List Nat} {pc : Nat} (hL : g_bs code L) (h : L[pc]? = some 27) : decode code pc = .ok ((.iload_n 1), 1) := g_dec ((g_ins (g_B_of hL h) rfl).trans rfl) rfl
theorem dc28 {code : ByteArray} {L : List Nat} {pc : Nat} (hL : g_bs code L) (h : L[pc]? = some 28) : decode code pc = .ok ((.iload_n 2), 1) := g_dec ((g_ins (g_B_of hL h) rfl).trans rfl) rfl
theorem dc29 {code : ByteArray} {L : List Nat} {pc : Nat} (hL : g_bs code L) (h : L[pc]? = some 29) : decode code pc = .ok ((.iload_n 3), 1) := g_dec ((g_ins (g_B_of hL h) rfl).trans rfl) rfl
theorem dc30 {code : ByteArray} {L : List Nat} {pc : Nat} (hL : g_bs code L) (h : L[pc]? = some 30) : decode code pc = .ok ((.lload_n 0), 1) := g_dec ((g_ins (g_B_of hL h) rfl).trans rfl) rfl
theorem dc31 {code : ByteArray} {L : List Nat} {pc : Nat} (hL : g_bs code L) (h : L[pc]? = some 31) : decode code pc = .ok ((.lload_n 1), 1) := g_dec ((g_ins (g_B_of hL h) rfl).trans rfl) rfl
theorem dc32 {code : ByteArray} {L : List Nat} {pc : Nat} (hL : g_bs code L) (h : L[pc]? = some 32) : decode code pc = .ok ((.lload_n 2), 1) := g_dec ((g_ins (g_B_of hL h) rfl).trans rfl) rfl
theorem dc33 {code : ByteArray} {L : List Nat} {pc : Nat} (hL : g_bs code L) (h : L[pc]? = some 33) : decode code pc = .ok ((.lload_n 3), 1) := g_dec ((g_ins (g_B_of hL h) rfl).trans rfl) rfl
theorem dc42 {code : ByteArray} {L : List Nat} {pc : Nat} (hL : g_bs code L) (h : L[pc]? = some 42) : decode code pc = .ok ((.aload_n 0), 1) := g_dec ((g_ins (g_B_of hL h) rfl).trans rfl) rfl
theorem dc43 {code : ByteArray} {L : List Nat} {pc : Nat} (hL : g_bs code L) (h : L[pc]? = some 43) : decode code pc = .ok ((.aload_n 1), 1) := g_dec ((g_ins (g_B_of hL h) rfl).trans rfl) rfl
theorem dc44 {code : ByteArray} {L : List Nat} {pc : Nat} (hL : g_bs code L) (h : L[pc]? = some 44) : decode code pc = .ok ((.aload_n 2), 1) := g_dec ((g_ins (g_B_of hL h) rfl).trans rfl) rfl
theorem dc45 {code : ByteArray} {L : List Nat} {pc : Nat} (hL : g_bs code L) (h : L[pc]? = some 45) : decode code pc = .ok ((.aload_n 3), 1) := g_dec ((g_ins (g_B_of hL h) rfl).trans rfl) rfl
theorem dc46 {code : ByteArray} {L : List Nat} {pc : Nat} (hL : g_bs code L) (h : L[pc]? = some 46) : decode code pc = .ok (.iaload, 1) := g_dec ((g_ins (g_B_of hL h) rfl).trans rfl) rfl
theorem dc47 {code : ByteArray} {L : List Nat} {pc : Nat} (hL : g_bs code L) (h : L[pc]? = some 47) : decode code pc = .ok (.laload, 1) := g_dec ((g_ins (g_B_of hL h) rfl).trans rfl) rfl
theorem dc50 {code : ByteArray} {L : List Nat} {pc : Nat} (hL : g_bs code L) (h : L[pc]? = some 50) : decode code pc = .ok (.aaload, 1) := g_dec ((g_ins (g_B_of hL h) rfl).trans rfl) rfl
theorem dc51 {code : ByteArray} {L : List Nat} {pc : Nat} (hL : g_bs code L) (h : L[pc]? = some 51) : decode code pc = .ok (.baload, 1) := g_dec ((g_ins (g_B_of hL h) rfl).trans rfl) rfl
theorem dc59 {code : ByteArray} {L : List Nat} {pc : Nat} (hL : g_bs code L) (h : L[pc]? = some 59) : decode code pc = .ok ((.istore_n 0), 1) := g_dec ((g_ins (g_B_of hL h) rfl).trans rfl) rfl
theorem dc60 {code : ByteArray} {L : List Nat} {pc : Nat} (hL : g_bs code L) (h : L[pc]? = some 60) : decode code pc = .ok ((.istore_n 1), 1) := g_dec ((g_ins (g_B_of hL h) rfl).trans rfl) rfl
theorem dc61 {code : ByteArray} {L : List Nat} {pc : Nat} (hL : g_bs code L) (h : L[pc]? = some 61) : decode code pc = .ok ((.istore_n 2), 1) := g_dec ((g_ins (g_B_of hL h) rfl).trans rfl) rfl
theorem dc62 {code : ByteArray} {L : List Nat} {pc : Nat} (hL : g_bs code L) (h : L[pc]? = some 62) : decode code pc = .ok ((.istore_n 3), 1) := g_dec ((g_ins (g_B_of hL h) rfl).trans rfl) rfl
theorem dc63 {code : ByteArray} {L : List Nat} {pc : Nat} (hL : g_bs code L) (h : L[pc]? = some 63) : decode code pc = .ok ((.lstore_n 0), 1) := g_dec ((g_ins (g_B_of hL h) rfl).trans rfl) rfl
theorem dc64 {code : ByteArray} {L : List Nat} {pc : Nat} (hL : g_bs code L) (h : L[pc]? = some 64) : decode code pc = .ok ((.lstore_n 1), 1) := g_dec ((g_ins (g_B_of hL h) rfl).trans rfl) rfl
theorem dc65 {code : ByteArray} {L : List Nat} {pc : Nat} (hL : g_bs code L) (h : L[pc]? = some 65) : decode code pc = .ok ((.lstore_n 2), 1) := g_dec ((g_ins (g_B_of hL h) rfl).trans rfl) rfl
theorem dc66 {code : ByteArray} {L : List Nat} {pc : Nat} (hL : g_bs code L) (h : L[pc]? = some 66) : decode code pc = .ok ((.lstore_n 3), 1) := g_dec ((g_ins (g_B_of hL h) rfl).trans rfl) rfl
theorem dc75 {code : ByteArray} {L : List Nat} {pc : Nat} (hL : g_bs code L) (h : L[pc]? = some 75) : decode code pc = .ok ((.astore_n 0), 1) := g_dec ((g_ins (g_B_of hL h) rfl).trans rfl) rfl
theorem dc76 {code : ByteArray} {L : List Nat} {pc : Nat} (hL : g_bs code L) (h : L[pc]? = some 76) : decode code pc = .ok ((.astore_n 1), 1) := g_dec ((g_ins (g_B_of hL h) rfl).trans rfl) rfl
theorem dc77 {code : ByteArray} {L : List Nat} {pc : Nat} (hL : g_bs code L) (h : L[pc]? = some 77) : decode code pc = .ok ((.astore_n 2), 1) := g_dec ((g_ins (g_B_of hL h) rfl).trans rfl) rfl
theorem dc78 {code : ByteArray} {L : List Nat} {pc : Nat} (hL : g_bs code L) (h : L[pc]? = some 78) : decode code pc = .ok ((.astore_n 3), 1) := g_dec ((g_ins (g_B_of hL h) rfl).trans rfl) rfl
theorem dc79 {code : ByteArray} {L : List Nat} {pc : Nat} (hL : g_bs code L) (h : L[pc]? = some 79) : decode code pc = .ok (.iastore, 1) := g_dec ((g_ins (g_B_of hL h) rfl).trans rfl) rfl
theorem dc80 {code : ByteArray} {L : List Nat} {pc : Nat} (hL : g_bs code L) (h : L[pc]? = some 80) : decode code pc = .ok (.lastore, 1) := g_dec ((g_ins (g_B_of hL h) rfl).trans rfl) rfl
theorem dc83 {code : ByteArray} {L : List Nat} {pc : Nat} (hL : g_bs code L) (h : L[pc]? = some 83) : decode code pc = .ok (.aastore, 1) := g_dec ((g_ins (g_B_of hL h) rfl).trans rfl) rfl
theorem dc84 {code : ByteArray} {L : List Nat} {pc : Nat} (hL : g_bs code L) (h : L[pc]? = some 84) : decode code pc = .ok (.bastore, 1) := g_dec ((g_ins (g_B_of hL h) rfl).trans rfl) rfl
theorem dc87 {code : ByteArray} {L : List Nat} {pc : Nat} (hL : g_bs code L) (h : L[pc]? = some 87) : decode code pc = .ok (.pop, 1) := g_dec ((g_ins (g_B_of hL h) rfl).trans rfl) rfl
theorem dc89 {code : ByteArray} {L : List Nat} {pc : Nat} (hL : g_bs code L) (h : L[pc]? = some 89) : decode code pc = .ok (.dup, 1) := g_dec ((g_ins (g_B_of hL h) rfl).trans rfl) rfl
theorem dc92 {code : ByteArray} {L : List Nat} {pc : Nat} (hL : g_bs code L) (h : L[pc]? = some 92) : decode code pc = .ok (.dup2, 1) := g_dec ((g_ins (g_B_of hL h) rfl).trans rfl) rfl
theorem dc96 {code : ByteArray} {L : List Nat} {pc : Nat} (hL : g_bs code L) (h : L[pc]? = some 96) : decode code pc = .ok (.iadd, 1) := g_dec ((g_ins (g_B_of hL h) rfl).trans rfl) rfl
theorem dc97 {code : ByteArray} {L : List Nat} {pc : Nat} (hL : g_bs code L) (h : L[pc]? = some 97) : decode code pc = .ok (.ladd, 1) := g_dec ((g_ins (g_B_of hL h) rfl).trans rfl) rfl
theorem dc100 {code : ByteArray} {L : List Nat} {pc : Nat} (hL : g_bs code L) (h : L[pc]? = some 100) : decode code pc = .ok (.isub, 1) := g_dec ((g_ins (g_B_of hL h) rfl).trans rfl) rfl
theorem dc101 {code : ByteArray} {L : List Nat} {pc : Nat} (hL : g_bs code L) (h : L[pc]? = some 101) : decode code pc = .ok (.lsub, 1) := g_dec ((g_ins (g_B_of hL h) rfl).trans rfl) rfl
theorem dc104 {code : ByteArray} {L : List Nat} {pc : Nat} (hL : g_bs code L) (h : L[pc]? = some 104) : decode code pc = .ok (.imul, 1) := g_dec ((g_ins (g_B_of hL h) rfl).trans rfl) rfl
theorem dc105 {code : ByteArray} {L : List Nat} {pc : Nat} (hL : g_bs code L) (h : L[pc]? = some 105) : decode code pc = .ok (.lmul, 1) := g_dec ((g_ins (g_B_of hL h) rfl).trans rfl) rfl
theorem dc108 {code : ByteArray} {L : List Nat} {pc : Nat} (hL : g_bs code L) (h : L[pc]? = some 108) : decode code pc = .ok (.idiv, 1) := g_dec ((g_ins (g_B_of hL h) rfl).trans rfl) rfl
theorem dc109 {code : ByteArray} {L : List Nat} {pc : Nat} (hL : g_bs code L) (h : L[pc]? = some 109) : decode code pc = .ok (.ldiv, 1) := g_dec ((g_ins (g_B_of hL h) rfl).trans rfl) rfl
theorem dc112 {code : ByteArray} {L : List Nat} {pc : Nat} (hL : g_bs code L) (h : L[pc]? = some 112) : decode code pc = .ok (.irem, 1) := g_dec ((g_ins (g_B_of hL h) rfl).trans rfl) rfl
theorem dc113 {code : ByteArray} {L : List Nat} {pc : Nat} (hL : g_bs code L) (h : L[pc]? = some 113) : decode code pc = .ok (.lrem, 1) := g_dec ((g_ins (g_B_of hL h) rfl).trans rfl) rfl
theorem dc116 {code : ByteArray} {L : List Nat} {pc : Nat} (hL : g_bs code L) (h : L[pc]? = some 116) : decode code pc = .ok (.ineg, 1) := g_dec ((g_ins (g_B_of hL h) rfl).trans rfl) rfl
theorem dc120 {code : ByteArray} {L : List Nat} {pc : Nat} (hL : g_bs code L) (h : L[pc]? = some 120) : decode code pc = .ok (.ishl, 1) := g_dec ((g_ins (g_B_of hL h) rfl).trans rfl) rfl
theorem dc122 {code : ByteArray} {L : List Nat} {pc : Nat} (hL : g_bs code L) (h : L[pc]? = some 122) : decode code pc = .ok (.ishr, 1) := g_dec ((g_ins (g_B_of hL h) rfl).trans rfl) rfl
theorem dc126 {code : ByteArray} {L : List Nat} {pc : Nat} (hL : g_bs code L) (h : L[pc]? = some 126) : decode code pc = .ok (.iand, 1) := g_dec ((g_ins (g_B_of hL h) rfl).trans rfl) rfl
theorem dc128 {code : ByteArray} {L : List Nat} {pc : Nat} (hL : g_bs code L) (h : L[pc]? = some 128) : decode code pc = .ok (.ior, 1) := g_dec ((g_ins (g_B_of hL h) rfl).trans rfl) rfl
theorem dc130 {code : ByteArray} {L : List Nat} {pc : Nat} (hL : g_bs code L) (h : L[pc]? = some 130) : decode code pc = .ok (.ixor, 1) := g_dec ((g_ins (g_B_of hL h) rfl).trans rfl) rfl
theorem dc133 {code : ByteArray} {L : List Nat} {pc : Nat} (hL : g_bs code L) (h : L[pc]? = some 133) : decode code pc = .ok (.i2l, 1) := g_dec ((g_ins (g_B_of hL h) rfl).trans rfl) rfl
theorem dc136 {code : ByteArray} {L : List Nat} {pc : Nat} (hL : g_bs code L) (h : L[pc]? = some 136) : decode code pc = .ok (.l2i, 1) := g_dec ((g_ins (g_B_of hL h) rfl).trans rfl) rfl
theorem dc145 {code : ByteArray} {L : List Nat} {pc : Nat} (hL : g_bs code L) (h : L[pc]? = some 145) : decode code pc = .ok (.i2b, 1) := g_dec ((g_ins (g_B_of hL h) rfl).trans rfl) rfl
theorem dc148 {code : ByteArray} {L : List Nat} {pc : Nat} (hL : g_bs code L) (h : L[pc]? = some 148) : decode code pc = .ok (.lcmp, 1) := g_dec ((g_ins (g_B_of hL h) rfl).trans rfl) rfl
theorem dc172 {code : ByteArray} {L : List Nat} {pc : Nat} (hL : g_bs code L) (h : L[pc]? = some 172) : decode code pc = .ok (.ireturn, 1) := g_dec ((g_ins (g_B_of hL h) rfl).trans rfl) rfl
theorem dc173 {code : ByteArray} {L : List Nat} {pc : Nat} (hL : g_bs code L) (h : L[pc]? = some 173) : decode code pc = .ok (.lreturn, 1) := g_dec ((g_ins (g_B_of hL h) rfl).trans rfl) rfl
theorem dc176 {code : ByteArray} {L : List Nat} {pc : Nat} (hL : g_bs code L) (h : L[pc]? = some 176) : decode code pc = .ok (.areturn, 1) := g_dec ((g_ins (g_B_of hL h) rfl).trans rfl) rfl
theorem dc177 {code : ByteArray} {L : List Nat} {pc : Nat} (hL : g_bs code L) (h : L[pc]? = some 177) : decode code pc = .ok (.return_, 1) := g_dec ((g_ins (g_B_of hL h) rfl).trans rfl) rfl
theorem dc190 {code : ByteArray} {L : List Nat} {pc : Nat} (hL : g_bs code L) (h : L[pc]? = some 190) : decode code pc = .ok (.arraylength, 1) := g_dec ((g_ins (g_B_of hL h) rfl).trans rfl) rfl
theorem dc18 {code : ByteArray} {L : List Nat} {pc x : Nat} (hL : g_bs code L) (h : (L.drop pc).take 2 = [18, x]) : decode code pc = .ok (.ldc x, 2) := by
  obtain ⟨h1, h2⟩ := g_B2 hL h
  refine g_dec ((g_ins h1 rfl).trans ?_) rfl
  exact (g_bd h2 (fun x => pure (Instr.ldc x))).trans rfl
theorem dc21 {code : ByteArray} {L : List Nat} {pc x : Nat} (hL : g_bs code L) (h : (L.drop pc).take 2 = [21, x]) : decode code pc = .ok (.iload x, 2) := by
  obtain ⟨h1, h2⟩ := g_B2 hL h
  refine g_dec ((g_ins h1 rfl).trans ?_) rfl
  exact (g_bd h2 (fun x => pure (Instr.iload x))).trans rfl
theorem dc22 {code : ByteArray} {L : List Nat} {pc x : Nat} (hL : g_bs code L) (h : (L.drop pc).take 2 = [22, x]) : decode code pc = .ok (.lload x, 2) := by
  obtain ⟨h1, h2⟩ := g_B2 hL h
  refine g_dec ((g_ins h1 rfl).trans ?_) rfl
  exact (g_bd h2 (fun x => pure (Instr.lload x))).trans rfl
theorem dc25 {code : ByteArray} {L : List Nat} {pc x : Nat} (hL : g_bs code L) (h : (L.drop pc).take 2 = [25, x]) : decode code pc = .ok (.aload x, 2) := by
  obtain ⟨h1, h2⟩ := g_B2 hL h
  refine g_dec ((g_ins h1 rfl).trans ?_) rfl
  exact (g_bd h2 (fun x => pure (Instr.aload x))).trans rfl
theorem dc54 {code : ByteArray} {L : List Nat} {pc x : Nat} (hL : g_bs code L) (h : (L.drop pc).take 2 = [54, x]) : decode code pc = .ok (.istore x, 2) := by
  obtain ⟨h1, h2⟩ := g_B2 hL h
  refine g_dec ((g_ins h1 rfl).trans ?_) rfl
  exact (g_bd h2 (fun x => pure (Instr.istore x))).trans rfl
theorem dc55 {code : ByteArray} {L : List Nat} {pc x : Nat} (hL : g_bs code L) (h : (L.drop pc).take 2 = [55, x]) : decode code pc = .ok (.lstore x, 2) := by
  obtain ⟨h1, h2⟩ := g_B2 hL h
  refine g_dec ((g_ins h1 rfl).trans ?_) rfl
  exact (g_bd h2 (fun x => pure (Instr.lstore x))).trans rfl
theorem dc58 {code : ByteArray} {L : List Nat} {pc x : Nat} (hL : g_bs code L) (h : (L.drop pc).take 2 = [58, x]) : decode code pc = .ok (.astore x, 2) := by
  obtain ⟨h1, h2⟩ := g_B2 hL h
  refine g_dec ((g_ins h1 rfl).trans ?_) rfl
  exact (g_bd h2 (fun x => pure (Instr.astore x))).trans rfl
theorem dc19 {code : ByteArray} {L : List Nat} {pc x y : Nat} (hL : g_bs code L) (h : (L.drop pc).take 3 = [19, x, y]) {z : Nat} (hz : x * 256 + y = z) : decode code pc = .ok (.ldc_w z, 3) := by
  obtain ⟨h1, h2, h3⟩ := g_B3 hL h
  subst hz
  refine g_dec ((g_ins h1 rfl).trans ?_) rfl
  exact (g_bd2 h2 h3 (fun x => pure (Instr.ldc_w x))).trans rfl
theorem dc20 {code : ByteArray} {L : List Nat} {pc x y : Nat} (hL : g_bs code L) (h : (L.drop pc).take 3 = [20, x, y]) {z : Nat} (hz : x * 256 + y = z) : decode code pc = .ok (.ldc2_w z, 3) := by
  obtain ⟨h1, h2, h3⟩ := g_B3 hL h
  subst hz
  refine g_dec ((g_ins h1 rfl).trans ?_) rfl
  exact (g_bd2 h2 h3 (fun x => pure (Instr.ldc2_w x))).trans rfl
theorem dc178 {code : ByteArray} {L : List Nat} {pc x y : Nat} (hL : g_bs code L) (h : (L.drop pc).take 3 = [178, x, y]) {z : Nat} (hz : x * 256 + y = z) : decode code pc = .ok (.getstatic z, 3) := by
  obtain ⟨h1, h2, h3⟩ := g_B3 hL h
  subst hz
  refine g_dec ((g_ins h1 rfl).trans ?_) rfl
  exact (g_bd2 h2 h3 (fun x => pure (Instr.getstatic x))).trans rfl
theorem dc180 {code : ByteArray} {L : List Nat} {pc x y : Nat} (hL : g_bs code L) (h : (L.drop pc).take 3 = [180, x, y]) {z : Nat} (hz : x * 256 + y = z) : decode code pc = .ok (.getfield z, 3) := by
  obtain ⟨h1, h2, h3⟩ := g_B3 hL h
  subst hz
  refine g_dec ((g_ins h1 rfl).trans ?_) rfl
  exact (g_bd2 h2 h3 (fun x => pure (Instr.getfield x))).trans rfl
theorem dc181 {code : ByteArray} {L : List Nat} {pc x y : Nat} (hL : g_bs code L) (h : (L.drop pc).take 3 = [181, x, y]) {z : Nat} (hz : x * 256 + y = z) : decode code pc = .ok (.putfield z, 3) := by
  obtain ⟨h1, h2, h3⟩ := g_B3 hL h
  subst hz
  refine g_dec ((g_ins h1 rfl).trans ?_) rfl
  exact (g_bd2 h2 h3 (fun x => pure (Instr.putfield x))).trans rfl
theorem dc182 {code : ByteArray} {L : List Nat} {pc x y : Nat} (hL : g_bs code L) (h : (L.drop pc).take 3 = [182, x, y]) {z : Nat} (hz : x * 256 + y = z) : decode code pc = .ok (.invokevirtual z, 3) := by
  obtain ⟨h1, h2, h3⟩ := g_B3 hL h
  subst hz
  refine g_dec ((g_ins h1 rfl).trans ?_) rfl
  exact (g_bd2 h2 h3 (fun x => pure (Instr.invokevirtual x))).trans rfl
theorem dc184 {code : ByteArray} {L : List Nat} {pc x y : Nat} (hL : g_bs code L) (h : (L.drop pc).take 3 = [184, x, y]) {z : Nat} (hz : x * 256 + y = z) : decode code pc = .ok (.invokestatic z, 3) := by
  obtain ⟨h1, h2, h3⟩ := g_B3 hL h
  subst hz
  refine g_dec ((g_ins h1 rfl).trans ?_) rfl
  exact (g_bd2 h2 h3 (fun x => pure (Instr.invokestatic x))).trans rfl
theorem dc17 {code : ByteArray} {L : List Nat} {pc x y : Nat} (hL : g_bs code L) (h : (L.drop pc).take 3 = [17, x, y]) {z : Int} (hz : Reader.signed 16 (x * 256 + y) = z) : decode code pc = .ok (.sipush z, 3) := by
  obtain ⟨h1, h2, h3⟩ := g_B3 hL h
  subst hz
  refine g_dec ((g_ins h1 rfl).trans ?_) rfl
  exact (g_bds2 h2 h3 (fun x => pure (Instr.sipush x))).trans rfl
theorem dc153 {code : ByteArray} {L : List Nat} {pc x y : Nat} (hL : g_bs code L) (h : (L.drop pc).take 3 = [153, x, y]) {z : Int} (hz : Reader.signed 16 (x * 256 + y) = z) : decode code pc = .ok (.ifCond .eq z, 3) := by
  obtain ⟨h1, h2, h3⟩ := g_B3 hL h
  subst hz
  refine g_dec ((g_ins h1 rfl).trans ?_) rfl
  exact (g_bds2 h2 h3 (fun x => pure (Instr.ifCond .eq x))).trans rfl
theorem dc154 {code : ByteArray} {L : List Nat} {pc x y : Nat} (hL : g_bs code L) (h : (L.drop pc).take 3 = [154, x, y]) {z : Int} (hz : Reader.signed 16 (x * 256 + y) = z) : decode code pc = .ok (.ifCond .ne z, 3) := by
  obtain ⟨h1, h2, h3⟩ := g_B3 hL h
  subst hz
  refine g_dec ((g_ins h1 rfl).trans ?_) rfl
  exact (g_bds2 h2 h3 (fun x => pure (Instr.ifCond .ne x))).trans rfl
theorem dc155 {code : ByteArray} {L : List Nat} {pc x y : Nat} (hL : g_bs code L) (h : (L.drop pc).take 3 = [155, x, y]) {z : Int} (hz : Reader.signed 16 (x * 256 + y) = z) : decode code pc = .ok (.ifCond .lt z, 3) := by
  obtain ⟨h1, h2, h3⟩ := g_B3 hL h
  subst hz
  refine g_dec ((g_ins h1 rfl).trans ?_) rfl
  exact (g_bds2 h2 h3 (fun x => pure (Instr.ifCond .lt x))).trans rfl
theorem dc156 {code : ByteArray} {L : List Nat} {pc x y : Nat} (hL : g_bs code L) (h : (L.drop pc).take 3 = [156, x, y]) {z : Int} (hz : Reader.signed 16 (x * 256 + y) = z) : decode code pc = .ok (.ifCond .ge z, 3) := by
  obtain ⟨h1, h2, h3⟩ := g_B3 hL h
  subst hz
  refine g_dec ((g_ins h1 rfl).trans ?_) rfl
  exact (g_bds2 h2 h3 (fun x => pure (Instr.ifCond .ge x))).trans rfl
theorem dc157 {code : ByteArray} {L : List Nat} {pc x y : Nat} (hL : g_bs code L) (h : (L.drop pc).take 3 = [157, x, y]) {z : Int} (hz : Reader.signed 16 (x * 256 + y) = z) : decode code pc = .ok (.ifCond .gt z, 3) := by
  obtain ⟨h1, h2, h3⟩ := g_B3 hL h
  subst hz
  refine g_dec ((g_ins h1 rfl).trans ?_) rfl
  exact (g_bds2 h2 h3 (fun x => pure (Instr.ifCond .gt x))).trans rfl
theorem dc158 {code : ByteArray} {L : List Nat} {pc x y : Nat} (hL : g_bs code L) (h : (L.drop pc).take 3 = [158, x, y]) {z : Int} (hz : Reader.signed 16 (x * 256 + y) = z) : decode code pc = .ok (.ifCond .le z, 3) := by
  obtain ⟨h1, h2, h3⟩ := g_B3 hL h
  subst hz
  refine g_dec ((g_ins h1 rfl).trans ?_) rfl
  exact (g_bds2 h2 h3 (fun x => pure (Instr.ifCond .le x))).trans rfl
theorem dc159 {code : ByteArray} {L : List Nat} {pc x y : Nat} (hL : g_bs code L) (h : (L.drop pc).take 3 = [159, x, y]) {z : Int} (hz : Reader.signed 16 (x * 256 + y) = z) : decode code pc = .ok (.if_icmp .eq z, 3) := by
  obtain ⟨h1, h2, h3⟩ := g_B3 hL h
  subst hz
  refine g_dec ((g_ins h1 rfl).trans ?_) rfl
  exact (g_bds2 h2 h3 (fun x => pure (Instr.if_icmp .eq x))).trans rfl
theorem dc160 {code : ByteArray} {L : List Nat} {pc x y : Nat} (hL : g_bs code L) (h : (L.drop pc).take 3 = [160, x, y]) {z : Int} (hz : Reader.signed 16 (x * 256 + y) = z) : decode code pc = .ok (.if_icmp .ne z, 3) := by
  obtain ⟨h1, h2, h3⟩ := g_B3 hL h
  subst hz
  refine g_dec ((g_ins h1 rfl).trans ?_) rfl
  exact (g_bds2 h2 h3 (fun x => pure (Instr.if_icmp .ne x))).trans rfl
theorem dc161 {code : ByteArray} {L : List Nat} {pc x y : Nat} (hL : g_bs code L) (h : (L.drop pc).take 3 = [161, x, y]) {z : Int} (hz : Reader.signed 16 (x * 256 + y) = z) : decode code pc = .ok (.if_icmp .lt z, 3) := by
  obtain ⟨h1, h2, h3⟩ := g_B3 hL h
  subst hz
  refine g_dec ((g_ins h1 rfl).trans ?_) rfl
  exact (g_bds2 h2 h3 (fun x => pure (Instr.if_icmp .lt x))).trans rfl
theorem dc162 {code : ByteArray} {L : List Nat} {pc x y : Nat} (hL : g_bs code L) (h : (L.drop pc).take 3 = [162, x, y]) {z : Int} (hz : Reader.signed 16 (x * 256 + y) = z) : decode code pc = .ok (.if_icmp .ge z, 3) := by
  obtain ⟨h1, h2, h3⟩ := g_B3 hL h
  subst hz
  refine g_dec ((g_ins h1 rfl).trans ?_) rfl
  exact (g_bds2 h2 h3 (fun x => pure (Instr.if_icmp .ge x))).trans rfl
theorem dc163 {code : ByteArray} {L : List Nat} {pc x y : Nat} (hL : g_bs code L) (h : (L.drop pc).take 3 = [163, x, y]) {z : Int} (hz : Reader.signed 16 (x * 256 + y) = z) : decode code pc = .ok (.if_icmp .gt z, 3) := by
  obtain ⟨h1, h2, h3⟩ := g_B3 hL h
  subst hz
  refine g_dec ((g_ins h1 rfl).trans ?_) rfl
  exact (g_bds2 h2 h3 (fun x => pure (Instr.if_icmp .gt x))).trans rfl
theorem dc164 {code : ByteArray} {L : List Nat} {pc x y : Nat} (hL : g_bs code L) (h : (L.drop pc).take 3 = [164, x, y]) {z : Int} (hz : Reader.signed 16 (x * 256 + y) = z) : decode code pc = .ok (.if_icmp .le z, 3) := by
  obtain ⟨h1, h2, h3⟩ := g_B3 hL h
  subst hz
  refine g_dec ((g_ins h1 rfl).trans ?_) rfl
  exact (g_bds2 h2 h3 (fun x => pure (Instr.if_icmp .le x))).trans rfl
theorem dc167 {code : ByteArray} {L : List Nat} {pc x y : Nat} (hL : g_bs code L) (h : (L.drop pc).take 3 = [167, x, y]) {z : Int} (hz : Reader.signed 16 (x * 256 + y) = z) : decode code pc = .ok (.goto z, 3) := by
  obtain ⟨h1, h2, h3⟩ := g_B3 hL h
  subst hz
  refine g_dec ((g_ins h1 rfl).trans ?_) rfl
  exact (g_bds2 h2 h3 (fun x => pure (Instr.goto x))).trans rfl
theorem dc198 {code : ByteArray} {L : List Nat} {pc x y : Nat} (hL : g_bs code L) (h : (L.drop pc).take 3 = [198, x, y]) {z : Int} (hz : Reader.signed 16 (x * 256 + y) = z) : decode code pc = .ok (.ifnull z, 3) := by
  obtain ⟨h1, h2, h3⟩ := g_B3 hL h
  subst hz
  refine g_dec ((g_ins h1 rfl).trans ?_) rfl
  exact (g_bds2 h2 h3 (fun x => pure (Instr.ifnull x))).trans rfl
theorem dc199 {code : ByteArray} {L : List Nat} {pc x y : Nat} (hL : g_bs code L) (h : (L.drop pc).take 3 = [199, x, y]) {z : Int} (hz : Reader.signed 16 (x * 256 + y) = z) : decode code pc = .ok (.ifnonnull z, 3) := by
  obtain ⟨h1, h2, h3⟩ := g_B3 hL h
  subst hz
  refine g_dec ((g_ins h1 rfl).trans ?_) rfl
  exact (g_bds2 h2 h3 (fun x => pure (Instr.ifnonnull x))).trans rfl
theorem dc16 {code : ByteArray} {L : List Nat} {pc x : Nat} (hL : g_bs code L) (h : (L.drop pc).take 2 = [16, x]) {z : Int} (hz : Reader.signed 8 x = z) : decode code pc = .ok (.bipush z, 2) := by
  obtain ⟨h1, h2⟩ := g_B2 hL h
  subst hz
  refine g_dec ((g_ins h1 rfl).trans ?_) rfl
  exact (g_bds1 h2 (fun x => pure (Instr.bipush x))).trans rfl
theorem dc132 {code : ByteArray} {L : List Nat} {pc x y : Nat} (hL : g_bs code L) (h : (L.drop pc).take 3 = [132, x, y]) {z : Int} (hz : Reader.signed 8 y = z) : decode code pc = .ok (.iinc x z, 3) := by
  obtain ⟨h1, h2, h3⟩ := g_B3 hL h
  subst hz
  refine g_dec ((g_ins h1 rfl).trans ?_) rfl
  refine (g_bd h2 (fun x => Reader.s1 >>= fun y => pure (Instr.iinc x y))).trans ?_
  exact (g_bds1 h3 (fun y => pure (Instr.iinc x y))).trans rfl
