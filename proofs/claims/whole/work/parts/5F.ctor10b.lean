/-! the model, its end -/
theorem k10_end {p : Program} {l : Launch} {e : Env} {R : Room} {s : State} {m : MethodId} {args : Array Value} {below : List Frame} {meth : Method} {c : Code} {w : g_W} {H : Heap} {locs : List Loc} {a : Nat} {lsA : Array Slot} (hw : g_Wk w) (hk : ∀ k, wk w k = true) (hr : ∀ j, j < 33 → wr w (mkj j) 0 = a + j) (hA : ∀ q, a ≤ q → wA w q) (C : cn_Ctx Mk_10 p l e R s m args below meth c w) (hZ : g_Zs w s s.heap) (ha : a < s.heap.size) (hsz : s.heap.size = a + 1) {f : Nat → Int32} (hL : ∀ q ∈ locs, a ≤ q.base) (hf : ∀ z, z < 138 → f z = nth mwords z 0)
    (pe : cnH (wD w) s.heap a (cs_10 w f a) H) (hls : lsA.size = 1) {cells slots : Nat} (hc : cells ≤ cnC Mk_10) (hs : slots ≤ cnS Mk_10) :
    W p l e R s m args below meth c H locs cells slots (MQ below (cn_Qc w a ((List.range 33).map (fun j => g_cell w sg0 (mkj j) 0))) args s (cnC Mk_10) (cnS Mk_10) (fun q => a ≤ q)) (F0 m 1147 lsA [.ref a]) := by
  have C0 := C
  obtain ⟨c1, c2, c3, c4, c5, c6, c7, c8, ⟨c9, c10, c11, c12⟩, c13, c14⟩ := C0
  have hR := m0_Rep hr hf pe
  have hwM := wM_Wk hw hk hr
  have hr0 : wr w 10 0 = a := hr 0 (by decide)
  have hz : s.heap.size ≤ H.size := by rw [pe.1, hsz]; exact Nat.add_le_add_left (show 1 ≤ 33 by decide) a
  have hM : g_Mt l yX10_laysAllWords M_m_laysAllWords (wM w a) sg0 [.inr (.inr (some (10, 0)))] sg0 none := by
    obtain ⟨σ', v, k1, k2⟩ := h_m_laysAllWords l (wM w a) hwM sg0 [.inr (.inr (some (10, 0)))] rfl sg0_wf (fun v hv => by
      rcases List.mem_cons.mp hv with rfl | h
      · exact (wM_vo' (j := 0) (by decide)).1
      · cases h) Sg retV sg0 (by
      show (m_laysAllWords sg0).bind (fun q => retV q none) = some sg0
      rw [law0]
      rfl)
    obtain ⟨rfl, rfl⟩ := retV_inv k1
    exact k2
  have hS : va_S (wA (wM w a)) s.heap H locs := ⟨hz, fun q h1 h2 => pe.2.1 q (Nat.not_le.mp h2), hL⟩
  have hP := g_one (σ := sg0) (by decide) hR (wM_vo' (j := 0) (by decide)).1 (g_cell_obj rfl)
  have hG : GoodIn lwG (wsV RX10 129 RX10 yX10_laysAllWords (Cond.code yX10_laysAllWords (g_mc M_m_laysAllWords) (ml M_m_laysAllWords) (mr M_m_laysAllWords) :: lwG)) := by
    refine g_goodIn (fun x hx => ?_)
    rcases List.mem_append.mp hx with q | q
    · rcases List.mem_cons.mp q with rfl | q
      · exact wx5_96
      · rcases List.mem_cons.mp q with rfl | q
        · exact wx5_98
        · rcases List.mem_cons.mp q with rfl | q
          · exact sel_GalleyRoomModel_laysAllWords___V
          · rcases List.mem_cons.mp q with rfl | q
            · exact wx1_12
            · cases q
    · rcases List.mem_cons.mp q with rfl | q
      · exact wx5_99
      · exact q
  have cw := cwV (R := R) (args := args) (rm := ({ frames := 2, cells := 0, slots := 0, locals := 80 } : Room)) 0 c7 hG rfl rfl rfl ⟨rfl, by decide, by decide, by decide +kernel⟩ ⟨by show 2 + 1 ≤ _; have : 4 ≤ R.frames := c9; omega, by show 8 + (2 + 11) + 80 ≤ _; have : 160 ≤ R.locals := c10; omega⟩
  have hr1 := va_runV (p := p) (l := l) (e := e) (below := below) (meth := meth) (locs := locs) (cells := cells) (slots := slots) (g := F0 m 1147 lsA [.ref a]) (C := RX10) (As := []) (b := wr w 10 0) (rest := []) ⟨c1, c2, c3, c6, c7⟩ hM cw ⟨g_blind (wM w a) sg0 _, va_recv c8 hP (ci := 10) rfl (q0 := 0) rfl, fun U hU hW => ⟨rfl, by rw [hU]; exact hR, va_K.moved hW.alike c8, by rw [hU]; exact wM_Zs hA (g_Zs_to hW hZ hz (fun q h1 h2 => pe.2.1 q (Nat.not_le.mp fun z => h2 (hA q z))))⟩⟩ rfl rfl hls (by rw [hr0]; rfl) (lv_room (Nat.le_of_ble_eq_true rfl)) (show decode cX10_init 1147 = .ok (.invokevirtual 129, 3) by decide +kernel) ⟨by rw [c11]; exact hc, by rw [c12]; exact hs⟩
  refine g_back (w := wM w a) (Mc := M_m_laysAllWords) hr1 hS (fun H1 locs1 hR1 hS1 _ _ _ _ => ?_)
  refine cn_ret C rfl ⟨?_, fun q hq => ?_, fun j x hx => ?_⟩ hS1.2.2 hc hs (by decide +kernel)
  · rw [hR1.1]; simp; rfl
  · have hq1 : q < s.heap.size := Nat.lt_trans hq ha
    exact hS1.2.1 q hq1 (Nat.not_le.mpr hq)
  · rw [List.getElem?_map] at hx
    by_cases hj : j < 33
    · rw [List.getElem?_range hj] at hx
      cases hx
      have := hR1.2.1 (mkj j) 0 (wM_vo' (w := w) (a := a) hj).2 (wM_vo' (w := w) (a := a) hj).1
      rw [show wr (wM w a) (mkj j) 0 = a + j from hr j hj] at this
      exact this
    · rw [List.getElem?_eq_none (by simp; omega)] at hx
      cases hx
