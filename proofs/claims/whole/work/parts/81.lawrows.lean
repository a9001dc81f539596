/-! THE LAW: its rows -/
def lX (p : Program) (s : State) (m : MethodId) (c : Code) (D : va_G) (ad sa : Nat → Nat) (cA : Nat → ClassId) (b L : Nat) (xs : Nat → Int32) : Prop :=
  p.tables.exec = Jvm.exec ∧ c.code = cL_law ∧ c.maxLocals = 4 ∧ s.vm.findClass RL = some m.cls ∧ zTb s ∧ va_K D vwCl (ztys cA) s ∧ zInj ad ∧ (∀ q, zA ad q → s.heap.size ≤ q) ∧ zXt sa (fun q => s.heap.size ≤ q) s s.heap ∧ (∀ k, 70 ≤ k → ad k = sa k) ∧ va_X b L xs s s.heap ∧ b < s.heap.size ∧ L ≤ 3072
def lJ (p : Program) (l : Launch) (e : Env) (s : State) (m : MethodId) (below : List Frame) (meth : Method) (c : Code) (D : va_G) (ad : Nat → Nat) (cA : Nat → ClassId) (b : Nat) (Q : State → Prop) (pc : Nat) (st : List Value) (S : ZSt) (i : Nat) : Prop :=
  ∀ (H : Heap) (locs : List Loc) (ls : Array Slot), va_P D vwCl (zws ad cA S) H → va_S (fun q => s.heap.size ≤ q) s.heap H locs → lv_has ls 4 [(3, .int (nI i)), (2, .ref (ad 57)), (1, .ref (ad 0)), (0, .ref b)] → W p l e room_1 s m #[Value.ref b] below meth c H locs 70 2496 Q (F0 m pc ls st)
section LW
variable {p : Program} {l : Launch} {e : Env} {s : State} {m : MethodId} {below : List Frame} {meth : Method} {c : Code} {D : va_G} {ad sa : Nat → Nat} {cA : Nat → ClassId} {b L : Nat} {xs : Nat → Int32} {Q : State → Prop} {S : ZSt} {i : Nat} {st : List Value} {pc pc' : Nat}
theorem l_al1 (C : lX p s m c D ad sa cA b L xs) (h : zD cL_law pc (.aload_n 1) 1 pc') (k : lJ p l e s m below meth c D ad cA b Q pc' (.ref (ad 0) :: st) S i) : lJ p l e s m below meth c D ad cA b Q pc st S i := by
  intro H locs ls hP hS hl
  obtain ⟨h1, rfl⟩ := h
  exact lv_aload_n C.1 C.2.1 h1 rfl (lv_at hl 2 rfl) (k H locs ls hP hS hl)
theorem l_al2 (C : lX p s m c D ad sa cA b L xs) (h : zD cL_law pc (.aload_n 2) 1 pc') (k : lJ p l e s m below meth c D ad cA b Q pc' (.ref (ad 57) :: st) S i) : lJ p l e s m below meth c D ad cA b Q pc st S i := by
  intro H locs ls hP hS hl
  obtain ⟨h1, rfl⟩ := h
  exact lv_aload_n C.1 C.2.1 h1 rfl (lv_at hl 1 rfl) (k H locs ls hP hS hl)
/-- script[i + j] -/
theorem l_arg {x : Int} {p1 p2 p3 p4 : Nat} (j : Nat) (C : lX p s m c D ad sa cA b L xs) (hj : i + j < L) (hx : Int32.ofInt x = nI j) (h0 : zD cL_law pc (.aload_n 0) 1 p1) (h1 : zD cL_law p1 (.iload_n 3) 1 p2) (h2 : zD cL_law p2 (.iconst x) 1 p3) (h3 : zD cL_law p3 (.iadd) 1 p4) (h4 : zD cL_law p4 (.iaload) 1 pc')
    (k : lJ p l e s m below meth c D ad cA b Q pc' (.int (xs (i + j)) :: st) S i) : lJ p l e s m below meth c D ad cA b Q pc st S i := by
  intro H locs ls hP hS hl
  have hLm : L ≤ 3072 := C.2.2.2.2.2.2.2.2.2.2.2.2
  obtain ⟨g0, rfl⟩ := h0
  obtain ⟨g1, rfl⟩ := h1
  obtain ⟨g2, rfl⟩ := h2
  obtain ⟨g3, rfl⟩ := h3
  obtain ⟨g4, rfl⟩ := h4
  refine lv_aload_n C.1 C.2.1 g0 rfl (lv_at hl 3 rfl) ?_
  refine lv_iload_n C.1 C.2.1 g1 rfl (lv_at hl 0 rfl) ?_
  refine lv_iconst C.1 C.2.1 g2 hx ?_
  refine lv_iadd C.1 C.2.1 g3 ?_
  have e1 : nI i + nI j = nI (i + j) := by
    rw [nI_iv, nI_iv, nI_iv, iv_add]; congr 1
  rw [e1]
  refine va_sld (A := fun q => s.heap.size ≤ q) C.1 C.2.1 C.2.2.2.2.2.2.2.2.2.2.1 C.2.2.2.2.2.2.2.2.2.2.2.1 (Nat.not_le.mpr C.2.2.2.2.2.2.2.2.2.2.2.1) hS (by
    intro z
    rcases z with z | z
    · exact nI_pos (by omega) z
    · rw [nI_clamp (by omega)] at z; omega) g4 ?_
  rw [nI_clamp (by omega)]
  exact k H locs ls hP hS hl
theorem l_call {ix bb ci n' : Nat} {M' : ZM} {As : List Value} {r : Value} {P : ZSt → Prop} {st0 rest : List Value} (C : lX p s m c D ad sa cA b L xs) (h : zD cL_law pc (.invokevirtual ix) 3 pc') (hl : zML RL ix M') (cw : zCW M' n') (iw : zIW M') (ho : zOb bb ci) (hc : ci < 8 ∧ (zC ci).1 = M'.1.cls) (hst : st0 = (As.map (cv ad)).reverse ++ .ref (ad bb) :: rest) (hn : As.length = n') (hw : (rest.map fun v => v.category).sum ≤ 8) (hEv : zEv 11 M' (.ref bb :: As) S (zY (some r) P))
    (k : ∀ S' : ZSt, P S' → lJ p l e s m below meth c D ad cA b Q pc' (cv ad r :: rest) S' i) : lJ p l e s m below meth c D ad cA b Q pc st0 S i := by
  intro H locs ls hP hS hls
  obtain ⟨g0, rfl⟩ := h
  refine g_callV (ad := ad) (d := 12) (d' := 11) C.1 C.2.1 C.2.2.1 C.2.2.2.1 C.2.2.2.2.1 C.2.2.2.2.2.1 C.2.2.2.2.2.2.1 ((C.2.2.2.2.2.2.2.2.1.kept hS.2.1).to C.2.2.2.2.2.2.2.1 C.2.2.2.2.2.2.2.2.2.1) hP hS C.2.2.2.2.2.2.2.1 hls.1 g0 hl cw iw ho hc hst hn hw hEv (by decide) (by decide) (by decide) ⟨by decide, by decide⟩ (fun r1 S1 H1 locs1 hq hP1 hS1 _ => ?_)
  obtain ⟨rfl, hq⟩ := hq
  exact k S1 hq H1 locs1 ls hP1 hS1 hls
theorem l_eq {v : Int32} {tgt : Nat} (C : lX p s m c D ad sa cA b L xs) (h : zJ cL_law pc (fun o => .if_icmp .eq o) tgt pc') (k : lJ p l e s m below meth c D ad cA b Q tgt st S i) : lJ p l e s m below meth c D ad cA b Q pc (.int v :: .int v :: st) S i := by
  intro H locs ls hP hS hls
  obtain ⟨o, g0, g1, -⟩ := h
  exact lv_icmp_eq C.1 C.2.1 g0 g1 (fun _ => k H locs ls hP hS hls) (fun z => absurd rfl z)
theorem l_leq {v : Int64} {tgt pc2 : Nat} (C : lX p s m c D ad sa cA b L xs) (h0 : zD cL_law pc (.lcmp) 1 pc2) (h : zJ cL_law pc2 (fun o => .ifCond .eq o) tgt pc') (k : lJ p l e s m below meth c D ad cA b Q tgt st S i) : lJ p l e s m below meth c D ad cA b Q pc (.long v :: .long v :: st) S i := by
  intro H locs ls hP hS hls
  obtain ⟨g, rfl⟩ := h0
  obtain ⟨o, g0, g1, -⟩ := h
  refine W.lcmp C.1 C.2.1 g ?_
  exact lv_if_eq C.1 C.2.1 g0 g1 (fun _ => k H locs ls hP hS hls) (fun z => absurd (by simp [lg_cmp]) z)
end LW
