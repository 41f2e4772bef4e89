theorem rI_ne {s : Sg} {k i c : Nat} {v : Int32} {k' i' c' : Nat} (h : k' ≠ k ∨ i' ≠ i ∨ c' ≠ c) : rI (wI s k i c v) k' i' c' = rI s k' i' c' := by
  rw [rI_wI, if_neg]; rintro ⟨h1, h2, h3⟩; rcases h with h | h | h <;> contradiction
theorem rI_eq {s : Sg} {k i c : Nat} {v : Int32} {c' : Nat} (h : c' = c) : rI (wI s k i c v) k i c' = v := by
  rw [rI_wI, if_pos ⟨rfl, rfl, h⟩]
theorem rL_ne {s : Sg} {k i c : Nat} {v : Int64} {k' i' c' : Nat} (h : k' ≠ k ∨ i' ≠ i ∨ c' ≠ c) : rL (wL s k i c v) k' i' c' = rL s k' i' c' := by
  rw [rL_wL, if_neg]; rintro ⟨h1, h2, h3⟩; rcases h with h | h | h <;> contradiction
theorem rL_eq {s : Sg} {k i c : Nat} {v : Int64} {c' : Nat} (h : c' = c) : rL (wL s k i c v) k i c' = v := by
  rw [rL_wL, if_pos ⟨rfl, rfl, h⟩]
def ud (f : Nat → Int32) (j : Nat) (v : Int32) : Nat → Int32 := fun i => if i = j then v else f i
theorem ud_ne {f : Nat → Int32} {j : Nat} {v : Int32} {i : Nat} (h : i ≠ j) : ud f j v i = f i := if_neg h
theorem ud_eq {f : Nat → Int32} {j : Nat} {v : Int32} {i : Nat} (h : i = j) : ud f j v i = v := if_pos h
theorem bindp {α : Type} {o : Option (Sg × α)} : (o.bind fun q => some (q.1, q.2)) = o := by cases o <;> rfl
theorem bindv {o : Option Sg} : (o.bind fun q => some q) = o := by cases o <;> rfl
theorem Call.gif {α : Type} {sx sm : Sg} {x x' m m' : Option (Sg × α)} {p : Prop} (h : p → Call sx sm x m) (g : ¬ p → Call sx sm x' m') : Call sx sm (gif p x x') (gif p m m') := by
  by_cases c : p
  · rw [gif_t c, gif_t c]; exact h c
  · rw [gif_f c, gif_f c]; exact g c
theorem call_id {α : Type} {sx sm : Sg} (h : Inv sx sm) {x m : Option (Sg × α)} {r : α} (hx : x = some (sx, r)) (hm : m = some (sm, r)) : Call sx sm x m :=
  ⟨sx, sm, r, hx, hm, h, by omega⟩
theorem Call.re {α : Type} {s1 m1 sx sm : Sg} {x m : Option (Sg × α)} (h : Call s1 m1 x m) (e : rN s1 79 0 0 = rN sx 79 0 0) : Call sx sm x m := by
  obtain ⟨a, b, r, h1, h2, h3, h4⟩ := h; exact ⟨a, b, r, h1, h2, h3, by omega⟩
theorem ix_k {k a : Int32} {m : Nat} (hk : k.toInt = m) (h : 0 ≤ a.toInt) (g : (m : Int) + a.toInt < 2147483648) : ix (k + a) = m + a.toInt.toNat := by
  rw [ix_eq, ti_add (by omega) (by omega)]; omega
theorem inb_k {k a : Int32} {m n : Nat} (hk : k.toInt = m) (h : 0 ≤ a.toInt) (hn : n < 2147483648) (g : (m : Int) + a.toInt < n) : inb (k + a) n := by
  rw [inb_iff, ti_add (by omega) (by omega)]; omega
/-! of, and what changes nothing -/
theorem c_of {sx sm : Sg} (h : Inv sx sm) (a b : Int32) : Call sx sm (x9_of sx a b) (m_of sm a b) := by
  obtain ⟨n0, n12⟩ := h.2.1.n12
  have X := h.2.1.1.2.1
  have e7 : rI sx 1 0 7 = rI sm 43 0 54 := X.1.1
  have e8 : rI sx 1 0 8 = rI sm 43 0 0 := X.1.2.1
  have e9 : rI sx 1 0 9 = rI sm 43 0 1 := X.1.2.2
  unfold x9_of x9_of_G m_of m_of_G
  simp only [q_x1_has (e7 ▸ n12), q_m_isWord n0, Option.bind_some, gdB0, gdB1, gdbI, gifbI, e7]
  refine Call.gif (fun c => ?_) (fun c => call_id h rfl rfl)
  have W := X.2.1 a.toInt.toNat (show _ < (rI sm 43 0 54).toInt by omega)
  refine Call.gif (fun _ => ?_) (fun _ => Call.gif (fun _ => ?_) (fun _ => Call.gif (fun _ => ?_) (fun _ => Call.gif (fun _ => ?_) (fun _ => Call.gif (fun _ => ?_) (fun _ => call_id h rfl rfl)))))
  · rw [gd_t (inb_iff.mpr (by omega)), gd_t (inb_k (m := 2) rfl c.1 (by omega) (by omega)), ix_k (m := 2) rfl c.1 (by omega)]
    exact call_id h rfl (by rw [show rI sx 12 0 (ix a) = rI sm 43 0 (2 + a.toInt.toNat) from W.1])
  · rw [gd_t (inb_iff.mpr (by omega)), gd_t (inb_k (m := 15) rfl c.1 (by omega) (by omega)), ix_k (m := 15) rfl c.1 (by omega)]
    exact call_id h rfl (by rw [show rI sx 13 0 (ix a) = rI sm 43 0 (15 + a.toInt.toNat) from W.2.1])
  · rw [gd_t (inb_iff.mpr (by omega)), gd_t (inb_k (m := 27) rfl c.1 (by omega) (by omega)), ix_k (m := 27) rfl c.1 (by omega)]
    exact call_id h rfl (by rw [show rI sx 14 0 (ix a) = rI sm 43 0 (27 + a.toInt.toNat) from W.2.2])
  · rw [q_x1_endsAfter (e7 ▸ n0) (e7 ▸ n12), q_m_endsAfter n0 c.1 (by omega), e7, e8]
    simp only [Option.bind_some, gdB0, gdB1, gdbI, gifbI]
    by_cases d : a.toInt = (rI sm 43 0 54).toInt - 1 ∨ bt (rI sm 43 0 0) a.toInt.toNat = true
    · rw [gif_t ⟨c, d⟩, gif_t d]; exact call_id h rfl rfl
    · rw [gif_f (fun e => d e.2), gif_f d]; exact call_id h rfl rfl
  · rw [q_x1_isSplit (e7 ▸ n12), q_m_isSplit c.1 (by omega), e7, e9]
    simp only [Option.bind_some, gdB0, gdB1, gdbI, gifbI]
    by_cases d : bt (rI sm 43 0 1) a.toInt.toNat = true
    · rw [gif_t ⟨c, d⟩, gif_t d]; exact call_id h rfl rfl
    · rw [gif_f (fun e => d e.2), gif_f d]; exact call_id h rfl rfl
theorem c_turned {sx sm : Sg} (h : Inv sx sm) : Call sx sm (x9_turned sx) (m_turned sm) := call_id h (r := rI sx 9 0 14) rfl (by rw [h.1.2.2.1.1]; rfl)
theorem c_fault {sx sm : Sg} (h : Inv sx sm) : Call sx sm (x9_fault sx) (m_fault sm) := call_id h (r := rI sx 6 0 6) rfl (by rw [h.1.2.2.1.2.2.2]; rfl)
theorem c_stopped {sx sm : Sg} (h : Inv sx sm) : Call sx sm (x9_stopped sx) (m_stopped sm) := call_id h (r := rI sx 9 0 15) rfl (by rw [h.1.2.2.1.2.1]; rfl)
theorem c_status {sx sm : Sg} (h : Inv sx sm) : Call sx sm (x9_status sx) (m_status sm) := call_id h (r := rI sx 9 0 16) rfl (by rw [h.1.2.2.1.2.2.1]; rfl)
/-! end -/
theorem c_end {sx sm : Sg} (h : Inv sx sm) (a : Int32) : Call sx sm (x9_end sx a) (m_end sm a) := by
  have e13 : rI sx 9 0 13 = rI sm 10 0 13 := h.1.1.1
  have key : 0 ≤ a.toInt ∧ a.toInt ≤ (rI sm 10 0 13).toInt → Call sx sm (some (wI sx 9 0 13 a, a)) (some (wI sm 10 0 13 a, a)) := by
    intro c
    have F : Fr [(9, 1, 14)] sx (wI sx 9 0 13 a) := fr_wI fr_rfl (hit_is (by simp))
    have G : Fr [(10, 1, 14)] sm (wI sm 10 0 13 a) := fr_wI fr_rfl (hit_is (by simp))
    refine ⟨_, _, a, rfl, rfl, ⟨?_, InvB_fr F G rfl rfl rfl rfl rfl h.2.1, LogR_fr F G h.log12 rfl rfl rfl rfl h.2.2.1, InvC_fr F G rfl rfl rfl rfl rfl rfl h.2.2.2.1, InvE_fr F G rfl rfl rfl h.2.2.2.2.1, InvF_fr F G rfl (.inl rfl) (.inl ⟨rfl, rfl⟩) (.inl rfl) rfl h.2.2.2.2.2⟩, by rw [rN_wI]; omega⟩
    obtain ⟨a1, a2, a3, a4⟩ := h.1
    unfold InvA
    simp (disch := omega) only [rI_ne, rI_eq]
    exact ⟨⟨trivial, c.1, by omega⟩, fun i hi => a2 i (by omega), a3, a4⟩
  unfold x9_end x9_end_G m_end m_end_G
  simp only [q_m_lies, Option.bind_some, gdB0, gdB1, gdbI, gifbI, e13]
  by_cases c : 0 ≤ a.toInt ∧ a.toInt ≤ (rI sm 10 0 13).toInt
  · rw [gif_f (by rw [ti_lt]; simp only [li_0]; omega), gif_f (by rw [ti_lt]; omega), gif_t (by simp only [li_0]; exact c)]; exact key c
  · rw [gif_f (p := _ ∧ _) (by simp only [li_0]; exact c)]
    by_cases d : a < 0
    · rw [gif_t d]; exact call_id h rfl rfl
    · rw [gif_f d, gif_t (by rw [ti_lt] at d ⊢; simp only [li_0] at d; omega)]; exact call_id h rfl rfl
/-! the row changed at single places -/
theorem wI_upd {s : Sg} {k i c : Nat} {v : Int32} : (wI s k i c v).1 k i = ud (s.1 k i) c v := by
  funext j; show (if k = k ∧ i = i ∧ j = c then v else s.1 k i j) = if j = c then v else s.1 k i j
  by_cases h : j = c
  · rw [if_pos h, if_pos ⟨rfl, rfl, h⟩]
  · rw [if_neg h, if_neg (fun g => h g.2.2)]
theorem wI_oth {s : Sg} {k i c : Nat} {v : Int32} {k' i' : Nat} (h : k' ≠ k ∨ i' ≠ i) : (wI s k i c v).1 k' i' = s.1 k' i' := by
  funext j; exact rI_ne (h.elim .inl (fun g => .inr (.inl g)))
theorem MW_t {f f' : Nat → Int32} (h : MW f) (hf : ∀ i, i < 58 → i ≠ 14 → i ≠ 51 → i ≠ 52 → i ≠ 53 → i ≠ 57 → f' i = f i)
    (h4 : (0 ≤ (f' 14).toInt ∧ (f' 14).toInt ≤ 999) ∧ (0 ≤ (f' 51).toInt ∧ (f' 51).toInt ≤ 10) ∧ (0 ≤ (f' 52).toInt ∧ (f' 52).toInt ≤ 9) ∧ 10 ≤ (f' 53).toInt ∧ (f' 53).toInt ≤ 60)
    (h6 : -1 ≤ (f' 57).toInt ∧ (f' 57).toInt < (f 56).toInt) : MW f' := by
  obtain ⟨a1, a2, a3, a4, a5, a6⟩ := h
  unfold MW
  rw [hf 54 (by omega) (by omega) (by omega) (by omega) (by omega) (by omega), hf 0 (by omega) (by omega) (by omega) (by omega) (by omega) (by omega), hf 1 (by omega) (by omega) (by omega) (by omega) (by omega) (by omega),
    hf 55 (by omega) (by omega) (by omega) (by omega) (by omega) (by omega), hf 56 (by omega) (by omega) (by omega) (by omega) (by omega) (by omega)]
  refine ⟨a1, fun w hw => ?_, a3, h4, ⟨a5.1, fun k hk => ?_⟩, a6.1, h6⟩
  · rw [hf (2 + w) (by omega) (by omega) (by omega) (by omega) (by omega) (by omega), hf (15 + w) (by omega) (by omega) (by omega) (by omega) (by omega) (by omega), hf (27 + w) (by omega) (by omega) (by omega) (by omega) (by omega) (by omega)]; exact a2 w hw
  · rw [hf (39 + 2 * k) (by omega) (by omega) (by omega) (by omega) (by omega) (by omega), hf (40 + 2 * k) (by omega) (by omega) (by omega) (by omega) (by omega) (by omega)]; exact a5.2 k hk
theorem GX_t {sx sx' : Sg} {g : Nat} {f f' : Nat → Int32} (hm : MW f) (h1 : ∀ c, 7 ≤ c → c ≠ 12 → rI sx' 1 g c = rI sx 1 g c) (h2 : ∀ c, rI sx' 12 g c = rI sx 12 g c) (h3 : ∀ c, rI sx' 13 g c = rI sx 13 g c)
    (h4 : ∀ c, rI sx' 14 g c = rI sx 14 g c) (h6 : ∀ c, rI sx' 16 g c = rI sx 16 g c) (h7 : ∀ c, rI sx' 17 g c = rI sx 17 g c)
    (hf : ∀ i, i < 58 → i ≠ 14 → i ≠ 51 → i ≠ 52 → i ≠ 53 → i ≠ 57 → f' i = f i)
    (e : rI sx' 15 g 0 = f' 14 ∧ rI sx' 15 g 1 = f' 51 ∧ rI sx' 15 g 2 = f' 52 ∧ rI sx' 15 g 3 = f' 53) (e' : rI sx' 1 g 12 = f' 57) (h : GX sx g f) : GX sx' g f' := by
  have hn := hm.1
  have hs := hm.2.2.2.2.1.1
  unfold GX at h ⊢
  rw [hf 54 (by omega) (by omega) (by omega) (by omega) (by omega) (by omega), hf 0 (by omega) (by omega) (by omega) (by omega) (by omega) (by omega), hf 1 (by omega) (by omega) (by omega) (by omega) (by omega) (by omega),
    hf 55 (by omega) (by omega) (by omega) (by omega) (by omega) (by omega), hf 56 (by omega) (by omega) (by omega) (by omega) (by omega) (by omega),
    h1 7 (by omega) (by omega), h1 8 (by omega) (by omega), h1 9 (by omega) (by omega), h1 10 (by omega) (by omega), h1 11 (by omega) (by omega)]
  refine ⟨h.1, fun w hw => ?_, e, ⟨h.2.2.2.1.1, fun k hk => ?_⟩, h.2.2.2.2.1, e'⟩
  · rw [h2, h3, h4, hf (2 + w) (by omega) (by omega) (by omega) (by omega) (by omega) (by omega), hf (15 + w) (by omega) (by omega) (by omega) (by omega) (by omega) (by omega), hf (27 + w) (by omega) (by omega) (by omega) (by omega) (by omega) (by omega)]; exact h.2.1 w hw
  · rw [h6, h7, hf (39 + 2 * k) (by omega) (by omega) (by omega) (by omega) (by omega) (by omega), hf (40 + 2 * k) (by omega) (by omega) (by omega) (by omega) (by omega) (by omega)]; exact h.2.2.2.1.2 k hk
theorem ik {n : Nat} (h : n < 5665) : inb (Int32.ofNat n) 5665 ∧ ix (Int32.ofNat n) = n := by
  have e := ti_ofNat (n := n) (by omega)
  exact ⟨by rw [inb_iff, e]; omega, by rw [ix_eq, e]; omega⟩
theorem k55 : inb 55 5665 ∧ ix 55 = 55 := ik (n := 55) (by omega)
theorem k57 : inb 57 5665 ∧ ix 57 = 57 := ik (n := 57) (by omega)
theorem k14 : inb 14 5665 ∧ ix 14 = 14 := ik (n := 14) (by omega)
theorem k51 : inb 51 5665 ∧ ix 51 = 51 := ik (n := 51) (by omega)
theorem k52 : inb 52 5665 ∧ ix 52 = 52 := ik (n := 52) (by omega)
theorem k53 : inb 53 5665 ∧ ix 53 = 53 := ik (n := 53) (by omega)
/-! force -/
theorem c_force {sx sm : Sg} (h : Inv sx sm) (a : Int32) : Call sx sm (x9_force sx a) (m_force sm a) := by
  have X := h.2.1.1.2.1
  have M := h.2.1.1.1
  have e11 : rI sx 1 0 11 = rI sm 43 0 56 := X.2.2.2.2.1
  have e12 : rI sx 1 0 12 = rI sm 43 0 57 := X.2.2.2.2.2
  unfold x9_force x9_force_G m_force m_force_G
  simp only [q_x1_canForce, q_m_isLaw M.2.2.2.2.2.1.1, Option.bind_some, gdB0, gdB1, gdbI, gifbI, e11, e12, bindp, gd_t k57.1, k57.2]
  refine Call.gif (fun c => ?_) (fun c => refuse_both h (.inr (.inl rfl)))
  have F : Fr [(1, 1, 13)] sx (wI sx 1 0 12 a) := fr_wI fr_rfl (hit_is (by simp))
  have G : Fr [(43, 1, 0)] sm (wI sm 43 0 57 a) := fr_wI fr_rfl (hit_ie (by simp))
  refine (answer_both ⟨InvA_fr F G rfl rfl rfl rfl rfl rfl rfl rfl h.1, ⟨⟨?_, ?_, ?_⟩, ?_, ?_⟩, ?_, InvC_fr F G rfl rfl rfl rfl rfl rfl h.2.2.2.1, InvE_fr F G rfl rfl rfl h.2.2.2.2.1, InvF_fr F G rfl (.inl rfl) (.inl ⟨rfl, rfl⟩) (.inl rfl) rfl h.2.2.2.2.2⟩ _).re (by rw [rN_wI])
  · rw [wI_upd]
    refine MW_t M (fun i _ _ _ _ _ h => ud_ne h) ?_ (by rw [ud_eq rfl]; exact c)
    rw [ud_ne (by omega), ud_ne (by omega), ud_ne (by omega), ud_ne (by omega)]; exact M.2.2.2.1
  · rw [wI_upd]
    refine GX_t M (fun c _ h => rI_ne (by omega)) (fun c => rI_ne (by omega)) (fun c => rI_ne (by omega)) (fun c => rI_ne (by omega)) (fun c => rI_ne (by omega)) (fun c => rI_ne (by omega)) (fun i _ _ _ _ _ h => ud_ne h) ?_ ?_ X
    · rw [rI_ne (by omega), rI_ne (by omega), rI_ne (by omega), rI_ne (by omega), ud_ne (by omega), ud_ne (by omega), ud_ne (by omega), ud_ne (by omega)]; exact X.2.2.1
    · rw [rI_eq rfl, ud_eq rfl]
  · rw [wI_upd]
    exact LX_c (sx := sx) M.2.2.2.2.2.1.2 (fun c => rfl) (by rw [rN_wI]; omega) (fun t k c _ _ hk => rI_ne (.inl (by rintro rfl; cases hk))) (fun t _ _ => rfl) (fun i hi => ud_ne (by omega)) h.2.1.1.2.2
  · rw [rI_ne (by omega), rI_ne (by omega)]; exact h.2.1.2.1
  · intro w; rw [rI_ne (by omega), rI_ne (by omega)]; exact h.2.1.2.2 w
  · exact LogR_c h.log12 (rI_ne (by omega)) (fun c => rI_ne (by omega)) (fun c => rI_ne (by omega)) (fun c => rI_ne (by omega)) (rI_ne (by omega)) (fun c => rI_ne (by omega)) (fun c hc => rI_ne (by omega)) h.2.2.1
/-! terms -/
theorem terms_both {sx sm : Sg} (h : Inv sx sm) (i j : Nat) (v : Int32) (hij : (i = 0 ∧ j = 14 ∧ 0 ≤ v.toInt ∧ v.toInt ≤ 999) ∨ (i = 1 ∧ j = 51 ∧ 0 ≤ v.toInt ∧ v.toInt ≤ 10) ∨ (i = 2 ∧ j = 52 ∧ 0 ≤ v.toInt ∧ v.toInt ≤ 9) ∨ (i = 3 ∧ j = 53 ∧ 10 ≤ v.toInt ∧ v.toInt ≤ 60)) :
    Call sx sm (x9_answer (wI (wI sx 15 0 i v) 3 0 3 0) (rI sx 15 0 i)) (m_settled (wI sm 43 0 j v) (rI sm 43 0 j)) := by
  have X := h.2.1.1.2.1
  have M := h.2.1.1.1
  have T := X.2.2.1
  have e : rI sx 15 0 i = rI sm 43 0 j := by
    rcases hij with ⟨rfl, rfl, -⟩ | ⟨rfl, rfl, -⟩ | ⟨rfl, rfl, -⟩ | ⟨rfl, rfl, -⟩
    · exact T.1
    · exact T.2.1
    · exact T.2.2.1
    · exact T.2.2.2
  rw [e]
  have F : Fr [(15, 1, 0), (3, 1, 4)] sx (wI (wI sx 15 0 i v) 3 0 3 0) := fr_wI (fr_wI fr_rfl (hit_ie (by simp))) (hit_is (by simp))
  have G : Fr [(43, 1, 0), (10, 1, 47)] sm (wI (wI sm 43 0 j v) 10 0 46 0) := fr_wI (fr_wI fr_rfl (hit_ie (by simp))) (hit_is (by simp))
  have eK : (wI (wI sm 43 0 j v) 10 0 46 0).1 43 0 = ud (sm.1 43 0) j v := by rw [wI_oth (by omega), wI_upd]
  refine (answer_both (sx := wI (wI sx 15 0 i v) 3 0 3 0) (sm := wI (wI sm 43 0 j v) 10 0 46 0) ⟨InvA_fr F G rfl rfl rfl rfl rfl rfl rfl rfl h.1, ⟨⟨?_, ?_, ?_⟩, ?_, ?_⟩, LogR_0 (rI_eq rfl) (rI_eq rfl), InvC_fr F G rfl rfl rfl rfl rfl rfl h.2.2.2.1, InvE_fr F G rfl rfl rfl h.2.2.2.2.1, InvF_fr F G rfl (.inl rfl) (.inl ⟨rfl, rfl⟩) (.inl rfl) rfl h.2.2.2.2.2⟩ (rI sm 43 0 j)).re (by rw [rN_wI, rN_wI])
  · rw [eK]
    refine MW_t M (fun i _ _ _ _ _ _ => ud_ne (by omega)) ?_ (by rw [ud_ne (by omega)]; exact M.2.2.2.2.2.2)
    have := M.2.2.2.1
    rcases hij with ⟨rfl, rfl, h1⟩ | ⟨rfl, rfl, h1⟩ | ⟨rfl, rfl, h1⟩ | ⟨rfl, rfl, h1⟩ <;> simp [ud] <;> omega
  · rw [eK]
    refine GX_t M (fun c _ h => ?_) (fun c => ?_) (fun c => ?_) (fun c => ?_) (fun c => ?_) (fun c => ?_) (fun i _ _ _ _ _ h => ud_ne (by omega)) ?_ ?_ X
    · rw [rI_ne (by omega), rI_ne (by omega)]
    · rw [rI_ne (by omega), rI_ne (by omega)]
    · rw [rI_ne (by omega), rI_ne (by omega)]
    · rw [rI_ne (by omega), rI_ne (by omega)]
    · rw [rI_ne (by omega), rI_ne (by omega)]
    · rw [rI_ne (by omega), rI_ne (by omega)]
    · rcases hij with ⟨rfl, rfl, -⟩ | ⟨rfl, rfl, -⟩ | ⟨rfl, rfl, -⟩ | ⟨rfl, rfl, -⟩ <;> (simp [ud, rI_wI]; simp [T]; try exact ⟨rfl, rfl, rfl⟩)
    · rw [rI_ne (by omega), rI_ne (by omega), ud_ne (by omega)]; exact X.2.2.2.2.2
  · rw [eK]
    exact LX_c (sx := sx) M.2.2.2.2.2.1.2 (fun c => rfl) (by rw [rN_wI, rN_wI]; omega) (fun t k c _ _ hk => by rw [rI_ne (.inl (by rintro rfl; cases hk)), rI_ne (.inl (by rintro rfl; cases hk))]) (fun t _ _ => rfl) (fun i hi => ud_ne (by omega)) h.2.1.1.2.2
  · rw [rI_ne (by omega), rI_ne (by omega), rI_ne (by omega), rI_ne (by omega)]; exact h.2.1.2.1
  · intro w; rw [rI_ne (by omega), rI_ne (by omega), rI_ne (by omega), rI_ne (by omega)]; exact h.2.1.2.2 w
def isTm (a b : Int32) : Prop := (a = 0 ∧ 0 ≤ b.toInt ∧ b.toInt ≤ 999) ∨ (a = 1 ∧ 0 ≤ b.toInt ∧ b.toInt ≤ 10) ∨ (a = 2 ∧ 0 ≤ b.toInt ∧ b.toInt ≤ 9) ∨ (a = 3 ∧ 10 ≤ b.toInt ∧ b.toInt ≤ 60)
theorem q_m_isTerm (s : Sg) (a b : Int32) : m_isTerm s a b = some (s, bI (isTm a b)) := by
  unfold m_isTerm m_isTerm_G isTm
  simp only [q_m_lies, Option.bind_some, gdB0, gdB1, gdbI, gifbI, li_0, li_999, li_10, li_9, li_60]
  refine gif_eq (fun h => ?_) (fun h0 => gif_eq (fun h => ?_) (fun h1 => gif_eq (fun h => ?_) (fun h2 => gif_eq (fun h => ?_) (fun h3 => lf0 (by simp [h0, h1, h2, h3])))))
  all_goals (subst h; exact pr (bI_congr (by simp)))
theorem x_terms_no {s : Sg} (l : rI s 76 0 0 = 0 ∧ rI s 76 0 1 = 0 ∧ rI s 76 0 2 = 0 ∧ rI s 76 0 3 = 10) (m : rI s 77 0 0 = 999 ∧ rI s 77 0 1 = 10 ∧ rI s 77 0 2 = 9 ∧ rI s 77 0 3 = 60) {a b : Int32} (c : ¬ isTm a b) : x9_terms s a b = x9_refuse s (-1) := by
  unfold isTm at c
  unfold x9_terms x9_terms_G
  simp only [bindp]
  refine gif_eq (fun _ => rfl) (fun h0 => gif_eq (fun _ => rfl) (fun h3 => ?_))
  rw [ti_lt] at h0 h3
  simp only [li_0, li_3] at h0 h3
  have hb : inb a 4 := inb_iff.mpr (by omega)
  have ha : a = 0 ∨ a = 1 ∨ a = 2 ∨ a = 3 := by simp only [ti_eq, li_0, li_1, li_2, li_3]; omega
  rw [gd_t hb]
  refine gif_eq (fun _ => rfl) (fun g => ?_)
  rw [gd_t hb]
  refine gif_eq (fun _ => rfl) (fun g' => ?_)
  exfalso
  rw [ti_lt] at g g'
  rcases ha with rfl | rfl | rfl | rfl
  · rw [show ix 0 = 0 from rfl, l.1] at g; rw [show ix 0 = 0 from rfl, m.1] at g'; simp only [li_0, li_999] at g g'; exact c (.inl ⟨rfl, by omega, by omega⟩)
  · rw [show ix 1 = 1 from rfl, l.2.1] at g; rw [show ix 1 = 1 from rfl, m.2.1] at g'; simp only [li_0, li_10] at g g'; exact c (.inr (.inl ⟨rfl, by omega, by omega⟩))
  · rw [show ix 2 = 2 from rfl, l.2.2.1] at g; rw [show ix 2 = 2 from rfl, m.2.2.1] at g'; simp only [li_0, li_9] at g g'; exact c (.inr (.inr (.inl ⟨rfl, by omega, by omega⟩)))
  · rw [show ix 3 = 3 from rfl, l.2.2.2] at g; rw [show ix 3 = 3 from rfl, m.2.2.2] at g'; simp only [li_10, li_60] at g g'; exact c (.inr (.inr (.inr ⟨rfl, by omega, by omega⟩)))
theorem x_terms_yes {s : Sg} {a b lo hi : Int32} {i : Nat} (e : ix a = i) (ha : 0 ≤ a.toInt ∧ a.toInt ≤ 3) (l : rI s 76 0 i = lo) (m : rI s 77 0 i = hi) (h : lo.toInt ≤ b.toInt ∧ b.toInt ≤ hi.toInt) :
    x9_terms s a b = x9_answer (wI (wI s 15 0 i b) 3 0 3 0) (rI s 15 0 i) := by
  have hb : inb a 4 := inb_iff.mpr (by omega)
  unfold x9_terms x9_terms_G
  simp only [bindp, gd_t hb, e, l, m]
  rw [gif_f (by rw [ti_lt]; simp only [li_0]; omega), gif_f (by rw [ti_lt]; simp only [li_3]; omega), gif_f (by rw [ti_lt]; omega), gif_f (by rw [ti_lt]; omega)]
theorem m_terms_yes {s : Sg} {a b : Int32} {j : Nat} {jj : Int32} (c : isTm a b) (e : m_termAt s a = some (s, jj)) (hj : inb jj 5665 ∧ ix jj = j) : m_terms s a b = m_settled (wI s 43 0 j b) (rI s 43 0 j) := by
  unfold m_terms m_terms_G
  simp only [q_m_isTerm, e, Option.bind_some, gdB0, gdB1, gdbI, gifbI, bindp, gd_t hj.1, hj.2, gif_t c]
theorem c_terms {sx sm : Sg} (h : Inv sx sm) (a b : Int32) : Call sx sm (x9_terms sx a b) (m_terms sm a b) := by
  obtain ⟨l, m, hF⟩ := h.2.2.2.2.2
  by_cases c : isTm a b
  · rcases id c with ⟨rfl, c1⟩ | ⟨rfl, c1⟩ | ⟨rfl, c1⟩ | ⟨rfl, c1⟩
    · rw [x_terms_yes (i := 0) rfl (by decide) l.1 m.1 c1, m_terms_yes c (by unfold m_termAt m_termAt_G; rw [gif_t rfl]) k14]
      exact terms_both h 0 14 b (.inl ⟨rfl, rfl, c1⟩)
    · rw [x_terms_yes (i := 1) rfl (by decide) l.2.1 m.2.1 c1, m_terms_yes c (by unfold m_termAt m_termAt_G; rw [gif_f (by decide), gif_t rfl]) k51]
      exact terms_both h 1 51 b (.inr (.inl ⟨rfl, rfl, c1⟩))
    · rw [x_terms_yes (i := 2) rfl (by decide) l.2.2.1 m.2.2.1 c1, m_terms_yes c (by unfold m_termAt m_termAt_G; rw [gif_f (by decide), gif_f (by decide), gif_t rfl]) k52]
      exact terms_both h 2 52 b (.inr (.inr (.inl ⟨rfl, rfl, c1⟩)))
    · rw [x_terms_yes (i := 3) rfl (by decide) l.2.2.2 m.2.2.2 c1, m_terms_yes c (by unfold m_termAt m_termAt_G; rw [gif_f (by decide), gif_f (by decide), gif_f (by decide)]) k53]
      exact terms_both h 3 53 b (.inr (.inr (.inr ⟨rfl, rfl, c1⟩)))
  · have e : m_terms sm a b = m_refuses sm (-1) := by
      unfold m_terms m_terms_G
      simp only [q_m_isTerm, Option.bind_some, gdB0, gdB1, gdbI, gifbI, bindp, gif_f c]
    rw [e, x_terms_no l m c]
    exact refuse_both h (.inl rfl)
