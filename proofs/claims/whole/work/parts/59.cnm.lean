/-! CONSTRUCTORS: arrays of references, of arrays; stores into new arrays -/
section CnRows2
variable {M : cn_M} {p : Program} {l : Launch} {e : Env} {R : Room} {s : State} {m : MethodId} {args : Array Value} {below : List Frame} {meth : Method} {c : Code} {w : g_W} {H : Heap} {locs : List Loc} {cells slots a pc : Nat} {lsA : Array Slot} {rest : List Value} {Q : State → Prop} {L : List va_E}
theorem cnH.many {D : va_G} {B H H1 : Heap} {a : Nat} {L CS : List va_E} (h : cnH D B a L H) (hz : H1.size = H.size + CS.length) (ho : ∀ q, q < H.size → H1[q]? = H[q]?) (he : ∀ j x, CS[j]? = some x → va_at D vwCl (H.size + j, x) H1) : cnH D B a (L ++ CS) H1 := by
  obtain ⟨h1, h2, h3⟩ := h
  refine ⟨by rw [hz, h1, List.length_append]; omega, fun q hq => (ho q (by omega)).trans (h2 q hq), fun j x hx => ?_⟩
  by_cases hj : j < L.length
  · rw [List.getElem?_append_left hj] at hx
    exact cn_at (h3 j x hx) (ho _ (by show a + j < _; omega))
  · rw [List.getElem?_append_right (by omega)] at hx
    have := he _ x hx
    rw [h1, show a + L.length + (j - L.length) = a + j by omega] at this
    exact this
theorem cn_anew (C : cn_Ctx M p l e R s m args below meth c w) (hH : cnH (wD w) s.heap a L H) {Cn : String} {idx k : Nat} {cA : ClassId} (hw : Cond.classLink (cnO M) idx Cn ∈ lwG) (hover : va_AO Cn s) (hk : (g_tys w)[k]? = some (cA, .object Cn))
    {n : Int32} {N : Nat} (hn : ¬ n < 0) (hN : n.toNatClampNeg = N) (hb : N * 4 ≤ 536870912) (hc : cells + 1 ≤ cnC M) (hs : slots + N ≤ cnS M) (hd : decode (cnB M) pc = .ok (.anewarray idx, 3))
    (kk : ∀ H1 : Heap, cnH (wD w) s.heap a (L ++ [.inl (cA, (N, .inr (.inr (.inr (.inr (fun _ => none))))))]) H1 → W p l e R s m args below meth c H1 locs (cells + 1) (slots + N) Q (F0 m (pc + 3) lsA (.ref (a + L.length) :: rest))) : W p l e R s m args below meth c H locs cells slots Q (F0 m pc lsA (.int n :: rest)) := by
  obtain ⟨c1, c2, c3, c4, c5, c6, c7, c8, ⟨c9, c10, c11, c12⟩, c13, c14⟩ := C
  subst hN
  refine W.anew c1 c2 c6 (c7 _ hw) (va_AO.use hover) (g := F0 m pc lsA (.int n :: rest)) rfl hd rfl hn hb (by rw [c11]; exact hc) (by rw [c12]; exact hs) fun cB kA comp f1 f2 f3 f4 => ?_
  obtain ⟨kA', comp', -, -, -, f5⟩ := (c8.2 k _ hk).2
  have hcc : cB = cA := Option.some.inj (f1.symm.trans f5)
  subst hcc
  generalize hH1 : H.push ({ cls := cB, slots := Array.replicate n.toNatClampNeg .null, vm := .none } : Cell) = H1
  have z1 : H1.size = H.size + 1 := by rw [← hH1, Array.size_push]
  have e1 : H1[H.size]? = some (arrV cB n.toNatClampNeg (fun _ => .null)) := by rw [← hH1, Array.getElem?_push_size, ← arrV_new]
  have o1 : ∀ q : Nat, q < H.size → H1[q]? = H[q]? := fun q hq => by rw [← hH1, Array.getElem?_push, if_neg (Nat.ne_of_lt hq)]
  rw [show (H.size : Nat) = a + L.length from hH.1]
  exact kk H1 (hH.push z1 o1 e1)
end CnRows2
