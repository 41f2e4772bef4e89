/-! BOTH SIDES IN ONE STATE -/
def mK (k : Nat) : Bool := Nat.beq k 10 || (Nat.ble 42 k && Nat.ble k 73)
def prM (s : Sg) : Sg := (fun k i c => bif mK k then s.1 k i c else 0, (fun k i c => bif mK k then s.2.1 k i c else 0, fun k i c => bif mK k then s.2.2 k i c else 0))
def prX (s : Sg) : Sg := (fun k i c => bif mK k then 0 else s.1 k i c, (fun k i c => bif mK k then 0 else s.2.1 k i c, fun k i c => bif mK k then 0 else s.2.2 k i c))
def agM (s t : Sg) : Prop := ∀ k, mK k = true → ∀ i c, t.1 k i c = s.1 k i c ∧ t.2.1 k i c = s.2.1 k i c ∧ t.2.2 k i c = s.2.2 k i c
def agX (s t : Sg) : Prop := ∀ k, mK k = false → ∀ i c, t.1 k i c = s.1 k i c ∧ t.2.1 k i c = s.2.1 k i c ∧ t.2.2 k i c = s.2.2 k i c
theorem prM_eq {s t : Sg} (h : agM s t) : prM t = prM s := by
  refine Prod.ext ?_ (Prod.ext ?_ ?_) <;> (funext k i c; show (bif mK k then _ else _) = (bif mK k then _ else _); cases e : mK k with
    | true => first | exact (h k e i c).1 | exact (h k e i c).2.1 | exact (h k e i c).2.2
    | false => rfl)
theorem prX_eq {s t : Sg} (h : agX s t) : prX t = prX s := by
  refine Prod.ext ?_ (Prod.ext ?_ ?_) <;> (funext k i c; show (bif mK k then _ else _) = (bif mK k then _ else _); cases e : mK k with
    | false => first | exact (h k e i c).1 | exact (h k e i c).2.1 | exact (h k e i c).2.2
    | true => rfl)
theorem Inv_prM (sx sm : Sg) : Inv sx (prM sm) = Inv sx sm := rfl
theorem clasX_pr (sx : Sg) (t : Nat) : ∀ (C : List Cla) (j : Nat), clasX (prX sx) t j C = clasX sx t j C
  | [], _ => rfl
  | c :: r, j => by
    show (claX (prX sx) t j c ∧ clasX (prX sx) t (j + 1) r) = (claX sx t j c ∧ clasX sx t (j + 1) r)
    rw [clasX_pr sx t r (j + 1)]
    rfl
theorem lawC_pr (sx : Sg) (t : Nat) (C : List Cla) : lawC (prX sx) t C = lawC sx t C := by
  unfold lawC
  rw [clasX_pr]
  rfl
theorem LawR_pr (sx : Sg) (t : Nat) (f : Nat → Int32) (l : Nat) : LawR (prX sx) t f l = LawR sx t f l := by
  unfold LawR
  simp only [lawC_pr]
theorem LX_pr (sx : Sg) (g : Nat) (f : Nat → Int32) : LX (prX sx) g f = LX sx g f := by
  unfold LX
  simp only [LawR_pr]
  rfl
theorem GA_pr (sx : Sg) (g : Nat) (f : Nat → Int32) : GA (prX sx) g f = GA sx g f := by
  unfold GA
  rw [LX_pr]
  rfl
theorem InvB_pr (sx sm : Sg) : InvB (prX sx) sm = InvB sx sm := by
  unfold InvB
  rw [GA_pr]
theorem InvC_pr (sx sm : Sg) : InvC (prX sx) sm = InvC sx sm := by
  unfold InvC
  simp only [GA_pr]
  rfl
theorem Inv_prX (sx sm : Sg) : Inv (prX sx) sm = Inv sx sm := by
  unfold Inv
  rw [InvB_pr, InvC_pr]
  rfl
theorem Inv_M {sx sm sm' : Sg} (h : agM sm sm') (I : Inv sx sm) : Inv sx sm' := by
  rw [← Inv_prM, prM_eq h, Inv_prM]
  exact I
theorem Inv_X {sx sx' sm : Sg} (h : agX sx sx') (I : Inv sx sm) : Inv sx' sm := by
  rw [← Inv_prX, prX_eq h, Inv_prX]
  exact I
theorem hitk {k i c : Nat} : ∀ {L : FPt}, hit L k i c → ∃ q ∈ L, q.1 = k
  | [], h => h.elim
  | e :: t, h => by
    rcases h with h | h
    · exact ⟨e, List.mem_cons_self, h.1⟩
    · obtain ⟨q, h1, h2⟩ := hitk h
      exact ⟨q, List.mem_cons_of_mem _ h1, h2⟩
theorem agM_of {L : FPt} {s t : Sg} (hL : L.all (fun q => !mK q.1) = true) (F : Fr L s t) : agM s t := fun k hk i c => F k i c (fun h => by
  obtain ⟨q, h1, rfl⟩ := hitk h
  have := List.all_eq_true.mp hL q h1
  rw [hk] at this
  cases this)
theorem agX_of {L : FPt} {s t : Sg} (hL : L.all (fun q => mK q.1) = true) (F : Fr L s t) : agX s t := fun k hk i c => F k i c (fun h => by
  obtain ⟨q, h1, rfl⟩ := hitk h
  have := List.all_eq_true.mp hL q h1
  rw [hk] at this
  cases this)
theorem lw_join {α : Type} {s : Sg} {x : Option (Sg × α)} {m : Sg → Option (Sg × α)} {Lx Lm : FPt} (I : Inv s s) (hc : ∀ sm, Inv s sm → Call s sm x (m sm)) (hLx : Lx.all (fun q => !mK q.1) = true) (fx : frP Lx s x) (hLm : Lm.all (fun q => mK q.1) = true) (fm : ∀ t, frP Lm t (m t)) :
    ∃ s1 s2 r, x = some (s1, r) ∧ m s1 = some (s2, r) ∧ Inv s2 s2 := by
  obtain ⟨s1, sm', r, e1, e2, -, -⟩ := hc s I
  have a1 : agM s s1 := agM_of hLx (fx _ e1)
  obtain ⟨s1', s2, r', e3, e4, I2, -⟩ := hc s1 (Inv_M a1 I)
  rw [e1] at e3
  cases e3
  exact ⟨s1, s2, r, e1, e4, Inv_X (agX_of hLm (fm _ _ e4)) I2⟩
theorem bt_0 (w : Nat) : bt 0 w = false := by
  unfold bt
  simp
theorem sg0_Inv : Inv sg0 sg0 := by
  have z0 : (rI sg0 10 0 13).toInt = 0 := by decide +kernel
  have z1 : (sg0.1 43 0 54).toInt = 0 := by decide +kernel
  have z2 : (sg0.1 43 0 55).toInt = 0 := by decide +kernel
  have z3 : (sg0.1 43 0 56).toInt = 0 := by decide +kernel
  have z4 : (rI sg0 43 0 54).toInt = 0 := z1
  refine ⟨⟨⟨rfl, by decide +kernel, by decide +kernel⟩, fun i hi => absurd hi (by omega), ⟨rfl, rfl, rfl, rfl⟩, rfl, rfl, rfl, rfl, rfl⟩, ⟨⟨⟨?_, fun w hw => absurd hw (by omega), ⟨fun w _ => ?_, fun w _ => ?_⟩, ?_, ⟨?_, fun k hk => absurd hk (by omega)⟩, ?_, ?_⟩, ⟨?_, fun w hw => absurd hw (by omega), ?_, ⟨?_, fun k hk => absurd hk (by omega)⟩, ?_⟩, fun l hl => absurd hl (by omega)⟩, ?_, fun w hw => absurd hw (by omega)⟩, ⟨0, by decide, by decide +kernel, by decide +kernel, fun j hj => absurd hj (Nat.not_lt_zero _)⟩, fun k hk => ⟨rfl, isB0, fun h => absurd rfl h⟩, Or.inl ⟨by decide +kernel, by decide +kernel⟩, ?_⟩
  · decide +kernel
  · have e : sg0.1 43 0 0 = 0 := by decide +kernel
    rw [e]
    exact bt_0 w
  · have e : sg0.1 43 0 1 = 0 := by decide +kernel
    rw [e]
    exact bt_0 w
  · decide +kernel
  · decide +kernel
  · decide +kernel
  · decide +kernel
  · decide +kernel
  · decide +kernel
  · decide +kernel
  · decide +kernel
  · decide +kernel
  · exact ⟨by decide +kernel, by decide +kernel, by decide +kernel, ⟨rfl, Or.inl ⟨rfl, rfl⟩, Nat.le_refl 1⟩, fun i hi => rfl⟩
