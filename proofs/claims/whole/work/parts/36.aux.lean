/-! HOW A METHOD'S TREE GIVES ITS CONTRACT -/
section Aux
variable {ρ : Type}
theorem p_I_inv {n : Nat} {f : Int32 → Bk ρ} {ls : Lc} {st : List PV} {σ : Sg} {r : ρ} (h : p_I n f ls st σ = some r) : ∃ x, lget ls n = some (.inl x) ∧ f x ls st σ = some r := by
  unfold p_I at h
  split at h
  · next x e => exact ⟨x, e, h⟩
  · cases h
theorem p_L_inv {n : Nat} {f : Int64 → Bk ρ} {ls : Lc} {st : List PV} {σ : Sg} {r : ρ} (h : p_L n f ls st σ = some r) : ∃ x, lget ls n = some (.inr (.inl x)) ∧ f x ls st σ = some r := by
  unfold p_L at h
  split at h
  · next x e => exact ⟨x, e, h⟩
  · cases h
theorem p_R_inv {n kd : Nat} {f : Nat → Bk ρ} {ls : Lc} {st : List PV} {σ : Sg} {r : ρ} (h : p_R n kd f ls st σ = some r) : ∃ x, lget ls n = some (.inr (.inr (some (kd, x)))) ∧ f x ls st σ = some r := by
  unfold p_R at h
  split at h
  · next q e =>
    obtain ⟨a, i⟩ := q
    split at h
    · next e1 => cases Nat.eq_of_beq_eq_true e1; exact ⟨i, e, h⟩
    · cases h
  · cases h
theorem p_C_inv {n kd c : Nat} {f : Bk ρ} {ls : Lc} {st : List PV} {σ : Sg} {r : ρ} (h : p_C n kd c f ls st σ = some r) : lget ls n = some (.inr (.inr (some (kd, c)))) ∧ f ls st σ = some r := by
  unfold p_C at h
  split at h
  · next q e =>
    obtain ⟨a, i⟩ := q
    split at h
    · next e1 =>
      split at h
      · next e2 => cases Nat.eq_of_beq_eq_true e1; cases Nat.eq_of_beq_eq_true e2; exact ⟨e, h⟩
      · cases h
    · cases h
  · cases h
theorem p_N_inv {n : Nat} {f : Nat → Bk ρ} {ls : Lc} {st : List PV} {σ : Sg} {r : ρ} (h : p_N n f ls st σ = some r) : ∃ x, lget ls n = some (g_nt x) ∧ f x ls st σ = some r := by
  unfold p_N at h
  split at h
  · next e => exact ⟨0, e, h⟩
  · next q e =>
    obtain ⟨a, i⟩ := q
    split at h
    · next e1 => cases Nat.eq_of_beq_eq_true e1; exact ⟨i + 1, e, h⟩
    · cases h
  · cases h
theorem p_F_inv {n : Nat} {f : Nat → Nat → Bk ρ} {ls : Lc} {st : List PV} {σ : Sg} {r : ρ} (h : p_F n f ls st σ = some r) : ∃ x y, lget ls n = some (.inr (.inr (some (x, y)))) ∧ f x y ls st σ = some r := by
  unfold p_F at h
  split at h
  · next q e => exact ⟨q.1, q.2, e, h⟩
  · cases h
theorem p_E_inv {f : Sg → Option ρ} {ls : Lc} {σ : Sg} {r : ρ} (h : p_E f ls [] σ = some r) : f σ = some r := h
theorem g_hd {as : List PV} {v : PV} (h : lget (as.map some) 0 = some v) {ci i : Nat} (hv : v = .inr (.inr (some (ci, i)))) : ∃ i t, as = .inr (.inr (some (ci, i))) :: t := by
  cases as with
  | nil => cases h
  | cons a t => cases h; exact ⟨i, t, by rw [hv]⟩
theorem lget_map {as : List PV} {n : Nat} {v : PV} (h : lget (as.map some) n = some v) : as[n]? = some v := by
  induction as generalizing n with
  | nil => cases n <;> cases h
  | cons a t ih =>
    cases n with
    | zero => cases h; rfl
    | succ n => simpa using ih h
theorem g_as1 {as : List PV} {a0 : PV} (hl : as.length = 1) (h0 : lget (as.map some) 0 = some a0) : as = [a0] := by
  match as, hl with
  | [x], _ => cases h0; rfl
theorem g_as2 {as : List PV} {a0 a1 : PV} (hl : as.length = 2) (h0 : lget (as.map some) 0 = some a0) (h1 : lget (as.map some) 1 = some a1) : as = [a0, a1] := by
  match as, hl with
  | [x, y], _ => cases h0; cases h1; rfl
theorem g_as3 {as : List PV} {a0 a1 a2 : PV} (hl : as.length = 3) (h0 : lget (as.map some) 0 = some a0) (h1 : lget (as.map some) 1 = some a1) (h2 : lget (as.map some) 2 = some a2) : as = [a0, a1, a2] := by
  match as, hl with
  | [x, y, z], _ => cases h0; cases h1; cases h2; rfl
theorem g_as4 {as : List PV} {a0 a1 a2 a3 : PV} (hl : as.length = 4) (h0 : lget (as.map some) 0 = some a0) (h1 : lget (as.map some) 1 = some a1) (h2 : lget (as.map some) 2 = some a2) (h3 : lget (as.map some) 3 = some a3) : as = [a0, a1, a2, a3] := by
  match as, hl with
  | [x, y, z, u], _ => cases h0; cases h1; cases h2; cases h3; rfl
theorem g_as5 {as : List PV} {a0 a1 a2 a3 a4 : PV} (hl : as.length = 5) (h0 : lget (as.map some) 0 = some a0) (h1 : lget (as.map some) 1 = some a1) (h2 : lget (as.map some) 2 = some a2) (h3 : lget (as.map some) 3 = some a3) (h4 : lget (as.map some) 4 = some a4) : as = [a0, a1, a2, a3, a4] := by
  match as, hl with
  | [x, y, z, u, v], _ => cases h0; cases h1; cases h2; cases h3; cases h4; rfl
theorem g_as6 {as : List PV} {a0 a1 a2 a3 a4 a5 : PV} (hl : as.length = 6) (h0 : lget (as.map some) 0 = some a0) (h1 : lget (as.map some) 1 = some a1) (h2 : lget (as.map some) 2 = some a2) (h3 : lget (as.map some) 3 = some a3) (h4 : lget (as.map some) 4 = some a4) (h5 : lget (as.map some) 5 = some a5) : as = [a0, a1, a2, a3, a4, a5] := by
  match as, hl with
  | [x, y, z, u, v, t], _ => cases h0; cases h1; cases h2; cases h3; cases h4; cases h5; rfl
theorem retI_inv {σ2 : Sg} {v2 : Option PV} {q : Sg × Int32} (h : retI σ2 v2 = some q) : σ2 = q.1 ∧ v2 = some (.inl q.2) := by
  unfold retI at h
  split at h
  · cases h; exact ⟨rfl, rfl⟩
  · cases h
theorem retL_inv {σ2 : Sg} {v2 : Option PV} {q : Sg × Int64} (h : retL σ2 v2 = some q) : σ2 = q.1 ∧ v2 = some (.inr (.inl q.2)) := by
  unfold retL at h
  split at h
  · cases h; exact ⟨rfl, rfl⟩
  · cases h
theorem retV_inv {σ2 : Sg} {v2 : Option PV} {q : Sg} (h : retV σ2 v2 = some q) : σ2 = q ∧ v2 = none := by
  unfold retV at h
  split at h
  · cases h; exact ⟨rfl, rfl⟩
  · cases h
theorem retN_inv {σ2 : Sg} {v2 : Option PV} {q : Sg × Nat} (h : retN σ2 v2 = some q) : σ2 = q.1 ∧ v2 = some (g_nt q.2) := by
  unfold retN at h
  split at h
  · cases h; exact ⟨rfl, rfl⟩
  · next x =>
    obtain ⟨a, t⟩ := x
    split at h
    · next e => cases Nat.eq_of_beq_eq_true e; cases h; exact ⟨rfl, rfl⟩
    · cases h
  · cases h
theorem retN_k {k : Sg → Option PV → Option ρ} {q : Sg × Nat} {r : ρ} (h : (match q.2 with
    | 0 => k q.1 (some (.inr (.inr none)))
    | t + 1 => k q.1 (some (.inr (.inr (some (8, t)))))) = some r) : k q.1 (some (g_nt q.2)) = some r := by
  obtain ⟨a, n⟩ := q
  cases n with
  | zero => exact h
  | succ n => exact h
theorem g_meth {ρ0 : Type} {M : g_M} {y : MethodName} {ret : Rt ρ0} {l : Launch} {w : g_W} {σ σ' : Sg} {as : List PV} {v : Option PV} {q : ρ0} {k : Sg → Option PV → Option ρ} {r : ρ} (hy : plainName y.cls = true) (hyc : y.cls = mo M) (hw : g_Wk w) (hwf : g_wf w σ) (has : ∀ v ∈ as, g_ok w σ v) (hlen : (g_al as).length ≤ ml M)
    (hGo : g_Go M ret (me M) 0 (g_loc as (ml M)) [] σ q) (hret : ∀ σ2 v2, ret σ2 v2 = some q → σ2 = σ' ∧ v2 = v) (hk : k σ' v = some r) : ∃ (σ' : Sg) (v : Option PV), k σ' v = some r ∧ g_Mt l y M w σ as σ' v :=
  ⟨σ', v, hk, g_entry hy hyc hw hwf has hlen hGo hret⟩
theorem Int32_of_toInt {x : Int32} {n : Int} (h : x.toInt = n) : x = Int32.ofInt n := by
  rw [← h, Int32.ofInt_toInt]
/-- a table that holds every number from lo to hi -/
theorem g_swall {β : Type} {lo hi : Int} (cs : List (Int32 × β)) {vs : List Int32} (hvs : ∀ j : Nat, j < (hi - lo + 1).toNat → Int32.ofInt (lo + (j : Int)) ∈ vs) (hm : cs.map Prod.fst = vs) : ∀ x : Int32, (∀ q ∈ cs, x ≠ q.1) → x.toInt < lo ∨ hi < x.toInt := by
  intro x hx
  by_cases h1 : x.toInt < lo
  · exact Or.inl h1
  by_cases h2 : hi < x.toInt
  · exact Or.inr h2
  exfalso
  have h3 := hvs (x.toInt - lo).toNat (by omega)
  rw [show lo + (((x.toInt - lo).toNat : Nat) : Int) = x.toInt by omega, Int32.ofInt_toInt, ← hm] at h3
  obtain ⟨q, hq, he⟩ := List.mem_map.mp h3
  exact hx q hq he.symm
end Aux
