/-! THE CLAIM OUT OF ONE WALK OF THE LAW'S BODY. Your part is whole_start (and what it stands on); all else here is the same for every law, but numbers. -/
def R_law : String := "GalleyRoomLaw"
def lw_P (b : Addr) (xs : List Int32) (args : Array Value) (s : State) : Prop := args = #[.ref b] ∧ s.IntsAt b xs ∧ xs.length ≤ 3072 ∧ (Jvm.Cond.and given_1 narrow_1).before args s = true
def lw_Q (_ : Array Value) (s : State) (o : Outcome) (t : State) : Prop := o = .returned (some (.int 1)) ∧ Framed s o t [] 600000 7302250
def lw_Z (below : List Frame) (a : Array Value) (s : State) : State → Prop := fun t => ∃ o, t.status = .running ∧ Ended t below o ∧ lw_Q a s o t
/-- the law's own end, with 1 on the stack, nothing written that was there before, its room as the claim has it -/
theorem lw_ret {p : Program} {l : Launch} {e : Env} {s : State} {m : MethodId} {below : List Frame} {meth : Method} {c : Code} {b : Nat} (hx : p.tables.exec = Jvm.exec) (hb : c.code = code) (hr : meth.sig.returnType = ret) (hlocks : meth.locks = false) {pc : Nat} {H : Heap} {ls : Array Slot} (hdg : decode code pc = .ok (.ireturn, 1)) : W p l e room_1 s m #[Value.ref b] below meth c H [] 600000 7302250 (lw_Z below #[Value.ref b] s) (F0 m pc ls [.int 1]) := by
  intro T hT X
  obtain ⟨fs, hret, hrun, hended, hW, hframe⟩ := X.leave (v := some (.int 1)) (hlocks := hlocks) (fun h => by rw [hr] at h; cases h)
  have hmeth' : T.vm.method? m = some meth := X.method'
  refine ⟨T.setFrames fs, ?_, .returned (some (.int 1)), hrun, hended, rfl, ⟨_, rfl⟩, hW, hframe⟩
  jvm_step X.here [X.here.top, hx, hb, hdg, hmeth', hr, ret, narrow_b1]
  (try refine ⟨rfl, ?_⟩); (try refine ⟨rfl, ?_⟩)
  first | (intro acts; rw [hret _ acts rfl rfl rfl]) | rw [hret _ _ rfl rfl rfl]
  exact Steps.refl _
/-- what holds at the law's entry: the machine, the code, the tables' words (any of lw_tbl by 'hts w (by decide +kernel)'), the script of L ints xs at the cell b, what the Statement gives of the start (any of its parts by flat_of_before) -/
def lw_At (p : Program) (s : State) (m : MethodId) (meth : Method) (c : Code) (b L : Nat) (xs : Nat → Int32) : Prop :=
  p.tables.exec = Jvm.exec ∧ c.code = code ∧ meth.sig.returnType = ret ∧ c.maxLocals = 4 ∧ s.vm.findClass R_law = some m.cls ∧ (∀ w ∈ lw_tbl, w.before #[Value.ref b] s = true) ∧ va_X b L xs s s.heap ∧ b < s.heap.size ∧ meth.locks = false ∧ (Jvm.Cond.and given_1 narrow_1).before #[Value.ref b] s = true
/-- at the law: the machine, the words, the world -/
def lw_C (p : Program) (s : State) (m : MethodId) (c : Code) (b L : Nat) (xs : Nat → Int32) (w : g_W) : Prop :=
  p.tables.exec = Jvm.exec ∧ c.code = code ∧ c.maxLocals = 4 ∧ s.vm.findClass R_law = some m.cls ∧ (∀ x ∈ lwG, x.before #[Value.ref b] s = true) ∧ va_K (wD w) vwCl (g_tys w) s ∧ g_Wk w ∧ (∀ k, wk w k = true) ∧ g_Zs w s s.heap ∧ va_X b L xs s s.heap ∧ b < s.heap.size ∧ ¬ wA w b
section LawRows
variable {p : Program} {l : Launch} {e : Env} {s : State} {m : MethodId} {below : List Frame} {meth : Method} {c : Code} {b L : Nat} {xs : Nat → Int32} {w : g_W} {H : Heap} {locs : List Loc} {cells slots pc : Nat} {lsA : Array Slot} {rest : List Value} {Q : State → Prop}
theorem lw_call (C : lw_C p s m c b L xs w) {Mc : g_M} {y : MethodName} {n idx ci : Nat} {T : u_T} {σ σ' : Sg} {as : List PV} {v : PV} (hM : g_Mt l y Mc w σ (.inr (.inr (some (ci, 0))) :: as) σ' (some v)) (hw : g_Cw R_law idx Mc y n) (hwi : Cond.instanceMethod y ∈ lwG ∧ Cond.selects y.cls y y ∈ lwG) (hc : vwCl[ci]? = some (y.cls, T, g_nf ci) ∧ Nat.blt ci 11 = true)
    (hmd : md Mc + 1 ≤ 2048 ∧ 8 + (ml Mc + 11) + 40 * md Mc ≤ 84000) (hR : g_Rep w σ H) (hS : va_S (wA w) s.heap H locs) (hv : g_vo w σ ci 0) (hlen : as.length = n) (hls : lsA.size = 4) (hroom : (rest.map fun v => v.category).sum ≤ 8) (hd : decode code pc = .ok (.invokevirtual idx, 3)) (hcs : cells + 7 * me Mc ≤ 600000 ∧ slots + g_SL * me Mc ≤ 7302250)
    (kk : ∀ (H1 : Heap) (locs1 : List Loc), g_Rep w σ' H1 → va_S (wA w) s.heap H1 locs1 → g_wf w σ' → W p l e room_1 s m #[Value.ref b] below meth c H1 locs1 (cells + 7 * me Mc) (slots + g_SL * me Mc) Q (F0 m (pc + 3) lsA (g_vl w v :: rest))) :
    W p l e room_1 s m #[Value.ref b] below meth c H locs cells slots Q (F0 m pc lsA ((as.map (g_vl w)).reverse ++ .ref (wr w ci 0) :: rest)) := by
  obtain ⟨c1, c2, c3, c6, c7, c8, c9, ck, c14, cX, cb, cA⟩ := C
  have hP := g_one (by have := Nat.le_of_ble_eq_true hc.2; omega) hR hv (g_cell_obj hc.2)
  have hG : GoodIn lwG (wsV R_law idx y.cls y (Cond.code y (g_mc Mc) (ml Mc) (mr Mc) :: lwG)) := by
    refine g_goodIn (fun x hx => ?_)
    rcases List.mem_append.mp hx with q | q
    · rcases List.mem_cons.mp q with rfl | q
      · exact hw.1
      · rcases List.mem_cons.mp q with rfl | q
        · exact hwi.1
        · rcases List.mem_cons.mp q with rfl | q
          · exact hwi.2
          · rcases List.mem_cons.mp q with rfl | q
            · exact hw.2.2.1
            · cases q
    · rcases List.mem_cons.mp q with rfl | q
      · exact hw.2.1
      · exact q
  have cw := cwV (R := room_1) (rm := ({ frames := md Mc, cells := 7 * me Mc, slots := g_SL * me Mc, locals := 40 * md Mc } : Room)) n c7 hG rfl rfl rfl ⟨rfl, hw.2.2.2.1.1, hw.2.2.2.1.2, hw.2.2.2.2⟩ ⟨hmd.1, hmd.2⟩
  have hr := va_runV (p := p) (l := l) (e := e) (below := below) (meth := meth) (locs := locs) (cells := cells) (slots := slots) (g := F0 m pc lsA ((as.map (g_vl w)).reverse ++ .ref (wr w ci 0) :: rest)) (C := y.cls) (As := as.map (g_vl w)) (b := wr w ci 0) (rest := rest) ⟨c1, c2, c3, c6, c7⟩ hM cw ⟨g_blind w σ _, va_recv c8 hP hc.1 (q0 := 0) rfl, fun U hU hW => ⟨rfl, by rw [hU]; exact hR, va_K.moved hW.alike c8, by rw [hU]; exact g_Zs_to hW c14 hS.1 hS.2.1⟩⟩ rfl (by rw [List.length_map]; exact hlen) hls rfl (lv_room hroom) hd ⟨hcs.1, hcs.2⟩
  exact g_back hr hS (fun H1 locs1 hR1 hS1 hwf1 _ _ _ => kk H1 locs1 hR1 hS1 hwf1)
end LawRows
theorem lw_ok {w : g_W} {σ : Sg} {ci : Nat} {t : List Int32} (h : g_vo w σ ci 0) : ∀ v ∈ (.inr (.inr (some (ci, 0))) :: t.map Sum.inl : List PV), g_ok w σ v := fun v hv => by
  rcases List.mem_cons.mp hv with rfl | hv
  · exact h
  · obtain ⟨z, -, rfl⟩ := List.mem_map.mp hv
    trivial
theorem lw_v9 {w : g_W} {σ : Sg} (hk : ∀ k, wk w k = true) : g_vo w σ 9 0 := ⟨hk 9, show 0 < 1 by decide⟩
theorem lw_v10 {w : g_W} {σ : Sg} (hk : ∀ k, wk w k = true) : g_vo w σ 10 0 := ⟨hk 10, show 0 < 1 by decide⟩
def lw_ix (x : Int32) (L : Nat) : Prop := vp_in (x + 1) L ∧ vp_in (x + 2) L ∧ vp_in (x + 3) L ∧ vp_in (x + 4) L ∧ vp_in (x + 5) L
theorem lw_cmp (r : Int64) : lg_cmp r r = 0 := by
  unfold lg_cmp
  simp
