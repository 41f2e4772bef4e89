/-! COPIES of rows of ints -/
section CopyRows
variable {ρ : Type} {M : g_M} {ret : Rt ρ} {b pc nx : Nat} {k : Bk ρ}
theorem g_toN {z : Int32} (h : ¬ z < 0) : z.toInt = (ix z : Int) := by
  have h1 : (0 : Int) ≤ z.toInt := by simpa using Int32.le_iff_toInt_le.mp (Int32.not_lt.mp h)
  show z.toInt = ((z.toInt.toNat : Nat) : Int)
  omega
theorem g_copy_inv {k0 n0 k1 n1 : Nat} {ls : Lc} {st : List PV} {σ : Sg} {r : ρ} (h : s_copy k0 n0 k1 n1 k ls st σ = some r) : ∃ n dp i1 sp i0 rest, st = .inl n :: .inl dp :: .inr (.inr (some (k1, i1))) :: .inl sp :: .inr (.inr (some (k0, i0))) :: rest ∧ stOK rest 8 = true ∧ g_cok sp dp n n0 n1 ∧ k ls rest (g_cpy σ k0 i0 sp k1 i1 dp n) = some r := by
  unfold s_copy at h
  split at h
  · next n dp d sp q rest =>
    obtain ⟨a1, i1⟩ := d
    obtain ⟨a0, i0⟩ := q
    split at h
    · next e =>
      split at h
      · next e2 =>
        split at h
        · next e3 =>
          cases Nat.eq_of_beq_eq_true e
          cases Nat.eq_of_beq_eq_true e2
          exact ⟨n, dp, i1, sp, i0, rest, rfl, e3, gd_some h⟩
        · cases h
      · cases h
    · cases h
  · cases h
theorem g_oC {w : g_W} {σ : Sg} {k0 i0 k1 i1 : Nat} {sp dp n : Int32} : ∀ k' i', (k' = k1 → i' = i1 → False) → g_cell w (g_cpy σ k0 i0 sp k1 i1 dp n) k' i' = g_cell w σ k' i' := by
  intro k' i' hne
  refine g_cell_congr (fun s' => ?_) (fun _ => rfl) (fun _ => rfl)
  show (if k' = k1 ∧ i' = i1 then _ else _) = _
  rw [if_neg (fun q => hne q.1 q.2)]
  rfl
theorem g_rIc {σ : Sg} {k0 i0 k1 i1 : Nat} {sp dp n : Int32} : rI (g_cpy σ k0 i0 sp k1 i1 dp n) k1 i1 = va_cpy (rI σ k0 i0) (rI σ k1 i1) (ix sp) (ix dp) (ix n) := by
  funext s'
  show (if k1 = k1 ∧ i1 = i1 then _ else _) = _
  rw [if_pos ⟨rfl, rfl⟩]
  rfl
theorem G_copy {k0 n0 k1 n1 idx : Nat} (ha0 : g_Ak k0 n0 0) (ha1 : g_Ak k1 n1 0) (h76 : k1 < 76) (h76' : k0 < 76) (hw : Cond.methodLink (mo M) idx arraycopyName ∈ lwG ∧ Cond.native arraycopyName ∈ lwG ∧ Cond.static arraycopyName ∈ lwG ∧ Cond.initialized "java/lang/System" ∈ lwG) (hmd : 1 ≤ md M)
    (hd : decode (g_mc M) pc = .ok (.invokestatic idx, 3)) (hn : pc + 3 = nx) (hk : g_Gd M ret b nx k) : g_Gd M ret b pc (s_copy k0 n0 k1 n1 k) := by
  subst hn
  intro ls st σ r h
  obtain ⟨n, dp, i1, sp, i0, rest, rfl, hst, ⟨o1, o2, o3, o4, o5⟩, h'⟩ := g_copy_inv h
  refine g_wr (kd := k1) (i := i1) hk h' h76 (fun w _ hwf h => ⟨g_top (g_tl (g_tl h)), g_tl (g_tl (g_tl (g_tl (g_tl h)))), hwf⟩) rfl (fun w => g_oC)
    (fun p l e R s m args below meth c w C H locs lsA cells slots Q q0 hR hS h5 hwf hL hi hq K => ?_)
  obtain ⟨c1, c2, c3, c4, c5, c6, c7, c8, c9, ⟨c10, c11, c12, c13⟩, c14⟩ := C
  have hD := g_ws_D c9 σ
  have hP := g_ws_P hR
  have hsum := stOK_sum w rest 8 hst
  rw [g_ci ha1 (Or.inl rfl)] at hq
  have hd1 : H[wr w k1 i1]? = some (arrV (wC w 0) n1 (fun j => .int (rI σ k1 i1 j))) := hP q0 _ hq
  have hd0 : H[wr w k0 i0]? = some (arrV (wC w 0) n0 (fun j => .int (rI σ k0 i0 j))) := g_one ha0.2.2.2.2 hR (g_top (g_tl (g_tl (g_tl (g_tl h5))))) (g_ci ha0 (Or.inl rfl)) 0 _ rfl
  intro T hT X
  obtain ⟨-, ks, hks, cm0, hkk0⟩ := (c8.2 0 (wC w 0, .int) rfl).1 n0 (fun j => .int (rI σ k0 i0 j))
  obtain ⟨-, kt, hkt, cm1, hkk1⟩ := (c8.2 0 (wC w 0, .int) rfl).1 n1 (fun j => .int (rI σ k1 i1 j))
  obtain ⟨vm', X', step⟩ := X.arraycopy c1 c6 (c7 _ hw.1) (c7 _ hw.2.1) (c7 _ hw.2.2.1) (c7 _ hw.2.2.2) (srcPos := sp) (destPos := dp) (n := n) (by rw [hT]; exact hd0) (by rw [hT]; exact hd1)
    (fun _ q => by cases q) (fun _ q => by cases q) (fun q => by cases q) (fun q => by cases q) hks hkt hkk0 hkk1 rfl o1 o2 o3 (by rw [g_toN o1, g_toN o3, arrV_size]; omega) (by rw [g_toN o2, g_toN o3, arrV_size]; omega)
    (fun vm1 _ j hj => by
      have hlt : sp.toNatClampNeg + j < n0 := Nat.lt_of_lt_of_le (Nat.add_lt_add_left hj _) o4
      rw [Array.getD_eq_getD_getElem?, arrV_read _ _ hlt]
      exact ⟨rfl, trivial⟩)
    (g := F0 m pc lsA ((.inl n :: .inl dp :: .inr (.inr (some (k1, i1))) :: .inl sp :: .inr (.inr (some (k0, i0))) :: rest : List PV).map (g_vl w))) rfl (by rw [c3]; exact hL.1) (rest := rest.map (g_vl w)) rfl (by rw [c2]; exact hd) (by omega)
    (by show 2 * 0 + _ + _ ≤ _; have : nativeFrameWords "java/lang/System" "arraycopy" 5 + 11 ≤ 32 := by decide +kernel
        omega)
  have ec : copied (arrV (wC w 0) n0 (fun j => .int (rI σ k0 i0 j))) (arrV (wC w 0) n1 (fun j => .int (rI σ k1 i1 j))) sp dp n = vp_cell (wC w 0) (n1, .inl (va_cpy (rI σ k0 i0) (rI σ k1 i1) (ix sp) (ix dp) (ix n))) := va_copied (fun z => .int z) (wC w 0) (wC w 0) (rI σ k0 i0) (rI σ k1 i1) o4
  rw [ec] at X' step
  have hlt : wr w k1 i1 < H.size := (Array.getElem?_eq_some_iff.mp hd1).1
  have oq : ∀ q : Nat, q ≠ wr w k1 i1 → (H.setIfInBounds (wr w k1 i1) (vp_cell (wC w 0) (n1, .inl (va_cpy (rI σ k0 i0) (rI σ k1 i1) (ix sp) (ix dp) (ix n)))))[q]? = H[q]? := fun q hq => by simp [Array.getElem?_setIfInBounds, Ne.symm hq]
  have hsz : (H.setIfInBounds (wr w k1 i1) (vp_cell (wC w 0) (n1, .inl (va_cpy (rI σ k0 i0) (rI σ k1 i1) (ix sp) (ix dp) (ix n))))).size = H.size := by simp
  have hA : wA w (wr w k1 i1) := hD.2 q0 _ hq
  obtain ⟨t, a1, b1⟩ := K (H.setIfInBounds (wr w k1 i1) (vp_cell (wC w 0) (n1, .inl (va_cpy (rI σ k0 i0) (rI σ k1 i1) (ix sp) (ix dp) (ix n))))) _ _ rfl hsz
    (hP.set hD hq (by
      rw [g_ci ha1 (Or.inl rfl), g_rIc]
      show (H.setIfInBounds _ _)[_]? = some (vp_cell _ _)
      simp [Array.getElem?_setIfInBounds, hlt]) oq)
    ⟨by rw [hsz]; exact hS.1, fun q g1 g2 => by rw [oq q (fun e => g2 (e ▸ hA))]; exact hS.2.1 q g1 g2, fun q hq => by
      rcases List.mem_append.mp hq with z | z
      · exact hS.2.2 q z
      · obtain ⟨y, -, rfl⟩ := List.mem_map.mp z
        exact hA⟩
    _ (by rw [← hT]; rfl) X'
  exact ⟨t, step t a1, b1⟩
end CopyRows
