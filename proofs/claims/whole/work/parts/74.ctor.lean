/-! THE CONSTRUCTORS: worlds that grow -/
def zAC (U : State) : Prop := (∀ ty : FieldType, (ty = .int ∨ ty = .boolean ∨ ty = .byte ∨ ty = .long) → (Cond.arrayClass ty).before #[] U = true) ∧ va_AO "PraisedFields$Land" U
theorem zAC.warm {s U : State} (hW : s.WarmedH U.vm) (h : zAC s) : zAC U := ⟨fun ty ht => word_at hW (Or.inr ⟨ty, rfl⟩) (h.1 ty ht), va_AO.moved hW.alike h.2⟩
theorem zAC.at {U : State} (h : zAC U) {ty : FieldType} (ht : ty = .int ∨ ty = .boolean ∨ ty = .byte ∨ ty = .long) (a : Array Value) : (Cond.arrayClass ty).before a U = true := word_at (State.WarmedH.refl U) (Or.inr ⟨ty, rfl⟩) (h.1 ty ht)
def cX (p : Program) (R : Room) (s : State) (m : MethodId) (meth : Method) (c : Code) (D : va_G) (cA : Nat → ClassId) (M : ZM) (A : Nat → Prop) (ls : Array Slot) (h0 : Nat) : Prop :=
  p.tables.exec = Jvm.exec ∧ c.code = M.2.1 ∧ c.maxLocals = M.2.2.1 ∧ s.vm.findClass M.1.cls = some m.cls ∧ zTb s ∧ meth.sig.returnType = none ∧ meth.locks = false ∧ meth.name = "<init>" ∧ va_K D vwCl (ztys cA) s ∧ zAC s ∧ lv_has ls M.2.2.1 [(0, .ref h0)] ∧ (∀ q, s.heap.size ≤ q → A q) ∧ (1 ≤ R.frames ∧ 12 ≤ R.locals)
def cS (p : Program) (l : Launch) (e : Env) (R : Room) (s : State) (m : MethodId) (args : Array Value) (below : List Frame) (meth : Method) (c : Code) (D : va_G) (A : Nat → Prop) (ls : Array Slot) (Q : State → Prop) (pc : Nat) (st : List Value) (ws : va_W) (k n : Nat) : Prop :=
  ∀ (H : Heap) (locs : List Loc), va_P D vwCl ws H → va_D A ws → va_S A s.heap H locs → W p l e R s m args below meth c H locs k n Q (F0 m pc ls st)
/-- a constructor's contract -/
def cMet (M : ZM) (ci : Nat) (fs : List Value) (mk : (Nat → Nat) → (Nat → ClassId) → va_W) (rm : Room) (mc ms : Nat) : Prop :=
  ∀ (l : Launch) (D : va_G) (cA : Nat → ClassId) (h0 sz : Nat), Met l M.1 [.code M.1 M.2.1 M.2.2.1 M.2.2.2] rm (va_Pc [.ref h0] (fun U => U.heap.size = sz ∧ va_P D vwCl [(h0, .inr (ci, fs))] U.heap ∧ va_K D vwCl (ztys cA) U ∧ zTb U ∧ zAC U)) (va_Qv (fun u : Nat → Nat => u 0 = h0) (fun u t => va_P D vwCl (mk u cA) t.heap ∧ va_D (va_A [(h0, .inr (ci, fs))] sz) (mk u cA)) (va_A [(h0, .inr (ci, fs))] sz)) mc ms (va_A [(h0, .inr (ci, fs))] sz)
theorem cblind (D : va_G) (cA : Nat → ClassId) (av : List Value) (B : State → Prop) (hB : ∀ (U : State) (g : JFrame) (mk : MethodId) (a : Array Value), B U → B (U.calling g mk a)) : FrameBlind (va_Pc av (fun U => B U ∧ va_K D vwCl (ztys cA) U ∧ zTb U ∧ zAC U)) := by
  intro a U g mk h
  obtain ⟨h1, h2, h3, h4, h5⟩ := h
  have hv : U.vm = (U.calling g mk a).vm := rfl
  exact ⟨h1, hB U g mk a h2, va_K.moved (u := U) (U := U.calling g mk a) (Vm.Alike.refl U.vm) h3, h4.same hv, zAC.warm (s := U) (U := U.calling g mk a) (State.WarmedH.refl U) h5⟩
section CT
variable {p : Program} {l : Launch} {e : Env} {R : Room} {s : State} {m : MethodId} {args : Array Value} {below : List Frame} {meth : Method} {c : Code} {D : va_G} {cA : Nat → ClassId} {M : ZM} {A : Nat → Prop} {ls : Array Slot} {Q : State → Prop} {pc pc' : Nat} {st : List Value} {ws : va_W} {k n h0 : Nat}
theorem c_aload (C : cX p R s m meth c D cA M A ls h0) (h : zD M.2.1 pc (.aload_n 0) 1 pc') (kk : cS p l e R s m args below meth c D A ls Q pc' (.ref h0 :: st) ws k n) : cS p l e R s m args below meth c D A ls Q pc st ws k n := by
  intro H locs hP hD hS
  obtain ⟨h1, rfl⟩ := h
  exact lv_aload_n C.1 C.2.1 h1 rfl (lv_at C.2.2.2.2.2.2.2.2.2.2.1 0 rfl) (kk H locs hP hD hS)
theorem c_obj {ix : Nat} (C : cX p R s m meth c D cA M A ls h0) (h : zD M.2.1 pc (.invokespecial ix) 3 pc') (hl : Cond.methodLink M.1.cls ix ⟨"java/lang/Object", "<init>", "()V"⟩ ∈ zW) (kk : cS p l e R s m args below meth c D A ls Q pc' [] ws k n) : cS p l e R s m args below meth c D A ls Q pc [.ref h0] ws k n := by
  intro H locs hP hD hS
  obtain ⟨h1, rfl⟩ := h
  refine W.objInit C.1 C.2.1 C.2.2.2.1 (C.2.2.2.2.1 _ hl args) (C.2.2.2.2.1 _ (zg_1_0 _ (List.mem_of_getElem? (i := 21) rfl) rfl) args) (C.2.2.2.2.1 _ (zg_1_0 _ (List.mem_of_getElem? (i := 22) rfl) rfl) args) rfl (by rw [C.2.2.1]; exact C.2.2.2.2.2.2.2.2.2.2.1.1) rfl h1 C.2.2.2.2.2.2.2.2.2.2.2.2.1 (by show 2 * 0 + 0 + 12 ≤ R.locals; have := C.2.2.2.2.2.2.2.2.2.2.2.2.2; omega) ?_
  exact kk H locs hP hD hS
theorem c_iconst {x : Int} {v : Int32} (C : cX p R s m meth c D cA M A ls h0) (h : zD M.2.1 pc (.iconst x) 1 pc') (hv : Int32.ofInt x = v) (kk : cS p l e R s m args below meth c D A ls Q pc' (.int v :: st) ws k n) : cS p l e R s m args below meth c D A ls Q pc st ws k n := by
  intro H locs hP hD hS
  obtain ⟨h1, rfl⟩ := h
  exact lv_iconst C.1 C.2.1 h1 hv (kk H locs hP hD hS)
theorem c_bipush {x : Int} {v : Int32} (C : cX p R s m meth c D cA M A ls h0) (h : zD M.2.1 pc (.bipush x) 2 pc') (hv : (Int8.ofInt x).toInt32 = v) (kk : cS p l e R s m args below meth c D A ls Q pc' (.int v :: st) ws k n) : cS p l e R s m args below meth c D A ls Q pc st ws k n := by
  intro H locs hP hD hS
  obtain ⟨h1, rfl⟩ := h
  exact lv_bipush C.1 C.2.1 h1 hv (kk H locs hP hD hS)
theorem c_sipush {x : Int} {v : Int32} (C : cX p R s m meth c D cA M A ls h0) (h : zD M.2.1 pc (.sipush x) 3 pc') (hv : (Int16.ofInt x).toInt32 = v) (kk : cS p l e R s m args below meth c D A ls Q pc' (.int v :: st) ws k n) : cS p l e R s m args below meth c D A ls Q pc st ws k n := by
  intro H locs hP hD hS
  obtain ⟨h1, rfl⟩ := h
  exact lv_sipush C.1 C.2.1 h1 hv (kk H locs hP hD hS)
theorem c_dup {v : Value} (C : cX p R s m meth c D cA M A ls h0) (h : zD M.2.1 pc (.dup) 1 pc') (hv : v.category = 1) (kk : cS p l e R s m args below meth c D A ls Q pc' (v :: v :: st) ws k n) : cS p l e R s m args below meth c D A ls Q pc (v :: st) ws k n := by
  intro H locs hP hD hS
  obtain ⟨h1, rfl⟩ := h
  exact lv_dup C.1 C.2.1 h1 hv (kk H locs hP hD hS)
/-- the class of an array is the one that is known -/
theorem ztys_same {cA : Nat → ClassId} {c1 : ClassId} {t : Nat} {ty : FieldType} {U : State} (hK : va_K D vwCl (ztys cA ++ [(c1, ty)]) U) (ht : (ztys cA)[t]? = some (cA t, ty)) (hn : va_RA U c1 ty → va_RA U (cA t) ty → c1 = cA t) : c1 = cA t := by
  refine hn (hK.2 5 (c1, ty) rfl).2 (hK.2 t (cA t, ty) ?_).2
  have hl := (List.getElem?_eq_some_iff.mp ht).1
  rw [List.getElem?_append_left hl]; exact ht
theorem c_newa {at_ : ArrayType} {ty : FieldType} {v : Int32} {N t : Nat} {a0 : vp_A} (C : cX p R s m meth c D cA M A ls h0) (h : zD M.2.1 pc (.newarray at_) 2 pc') (hty : newarray.typeOf at_ = ty) (ht : (ztys cA)[t]? = some (cA t, ty)) (hr : ∀ (U : State) (c1 c2 : ClassId), va_RA U c1 ty → va_RA U c2 ty → c1 = c2) (hac : ty = .int ∨ ty = .boolean ∨ ty = .byte ∨ ty = .long) (ha : ∀ cA : ClassId, vp_cell cA a0 = arrV cA N (fun _ => defaultValue ty)) (hn : ¬ v < 0) (hN : v.toNatClampNeg = N) (hb : N * componentBytes ty ≤ 536870912) (hc : k + 1 ≤ R.cells) (hs : n + N ≤ R.slots) (kk : ∀ q : Nat, cS p l e R s m args below meth c D A ls Q pc' (.ref q :: st) (ws ++ [(q, .inl (cA t, a0))]) (k + 1) (n + N)) : cS p l e R s m args below meth c D A ls Q pc (.int v :: st) ws k n := by
  intro H locs hP hD hS
  obtain ⟨h1, rfl⟩ := h
  refine va_newa C.1 C.2.1 (by rw [hty]; exact C.2.2.2.2.2.2.2.2.2.1.at hac args) hty C.2.2.2.2.2.2.2.2.1 hP hD hS C.2.2.2.2.2.2.2.2.2.2.2.1 ha hn hN hb hc hs h1 (fun q c1 H1 hK1 hP1 hD1 hS1 => ?_)
  obtain rfl := ztys_same hK1 ht (hr s c1 (cA t))
  exact kk q H1 locs hP1 hD1 hS1
theorem RA_int : ∀ (U : State) (c1 c2 : ClassId), va_RA U c1 .int → va_RA U c2 .int → c1 = c2 := fun U c1 c2 a b => Option.some.inj (a.symm.trans b)
theorem RA_bool : ∀ (U : State) (c1 c2 : ClassId), va_RA U c1 .boolean → va_RA U c2 .boolean → c1 = c2 := fun U c1 c2 a b => Option.some.inj (a.symm.trans b)
theorem RA_byte : ∀ (U : State) (c1 c2 : ClassId), va_RA U c1 .byte → va_RA U c2 .byte → c1 = c2 := fun U c1 c2 a b => Option.some.inj (a.symm.trans b)
theorem RA_long : ∀ (U : State) (c1 c2 : ClassId), va_RA U c1 .long → va_RA U c2 .long → c1 = c2 := fun U c1 c2 a b => Option.some.inj (a.symm.trans b)
/-- a final field, of the object that stands first -/
theorem c_putF {ix ci j a : Nat} {fs : List Value} {v : Value} {w : va_W} (C : cX p R s m meth c D cA M A ls h0) (h : zD M.2.1 pc (.putfield ix) 3 pc') (hf : zFL M.1.cls ix ci j) (hci : ci < 8 ∧ j < (zC ci).2.2) (hfin : ((zC ci).2.1 j).2.2.2 = true) (hdc : ((zC ci).2.1 j).1 = M.1.cls) (hn : narrow (zty ci j) v = v) (hfit : fits (zty ci j) v = true) (hl : j < fs.length) (kk : cS p l e R s m args below meth c D A ls Q pc' st ((a, .inr (ci, fs.set j v)) :: w) k n) : cS p l e R s m args below meth c D A ls Q pc (v :: .ref a :: st) ((a, .inr (ci, fs)) :: w) k n := by
  intro H locs hP hD hS
  obtain ⟨h1, rfl⟩ := h
  exact va_putF C.1 C.2.1 (fun w hw => C.2.2.2.2.1 w hw args) (zhin ci hci.1) (zty ci) (zhty ci hci.1) (zhnm ci hci.1) C.2.2.2.1 C.2.2.2.2.2.2.2.2.1 hP hD hS 0 rfl (zhcl ci hci.1) j hci.2 (C.2.2.2.2.1 _ hf args) (fun _ h9 => h9) hfin C.2.2.2.2.2.2.2.1 hdc (zhty ci hci.1 j hci.2) hn hfit hl h1 (fun H1 locs1 hP1 hD1 hS1 => kk H1 locs1 hP1 hD1 hS1)
theorem c_put {ix ci j a : Nat} {fs : List Value} {v : Value} {w : va_W} (C : cX p R s m meth c D cA M A ls h0) (h : zD M.2.1 pc (.putfield ix) 3 pc') (hf : zFL M.1.cls ix ci j) (hci : ci < 8 ∧ j < (zC ci).2.2) (hfin : ((zC ci).2.1 j).2.2.2 = false) (hn : narrow (zty ci j) v = v) (hfit : fits (zty ci j) v = true) (hl : j < fs.length) (kk : cS p l e R s m args below meth c D A ls Q pc' st ((a, .inr (ci, fs.set j v)) :: w) k n) : cS p l e R s m args below meth c D A ls Q pc (v :: .ref a :: st) ((a, .inr (ci, fs)) :: w) k n := by
  intro H locs hP hD hS
  obtain ⟨h1, rfl⟩ := h
  exact va_put C.1 C.2.1 (fun w hw => C.2.2.2.2.1 w hw args) (zhin ci hci.1) (zty ci) (zhty ci hci.1) (zhnm ci hci.1) C.2.2.2.1 C.2.2.2.2.2.2.2.2.1 hP hD hS 0 rfl (zhcl ci hci.1) j hci.2 (C.2.2.2.2.1 _ hf args) (fun _ h9 => h9) hfin (zhty ci hci.1 j hci.2) hn hfit hl h1 (fun H1 locs1 hP1 hD1 hS1 => kk H1 locs1 hP1 hD1 hS1)
theorem c_iast {q0 a N : Nat} {f : Nat → Int32} {i x : Int32} (C : cX p R s m meth c D cA M A ls h0) (h : zD M.2.1 pc (.iastore) 1 pc') (ha : ws[q0]? = some (a, .inl (cA 0, N, .inl f))) (hi : vp_in i N) (kk : cS p l e R s m args below meth c D A ls Q pc' st (ws.set q0 (a, .inl (cA 0, N, .inl (upd f i.toNatClampNeg x)))) k n) : cS p l e R s m args below meth c D A ls Q pc (.int x :: .int i :: .ref a :: st) ws k n := by
  intro H locs hP hD hS
  obtain ⟨h1, rfl⟩ := h
  exact va_iast C.1 C.2.1 C.2.2.2.2.2.2.2.2.1 hP hD hS q0 0 ha rfl hi h1 (fun H1 locs1 hP1 hD1 hS1 => kk H1 locs1 hP1 hD1 hS1)
theorem c_ret {mk : (Nat → Nat) → (Nat → ClassId) → va_W} {u : Nat → Nat} (C : cX p R s m meth c D cA M A ls h0) (h : zD M.2.1 pc (.return_) 1 pc') (hu : u 0 = h0) : cS p l e R s m args below meth c D A ls (MQ below (va_Qv (fun u : Nat → Nat => u 0 = h0) (fun u t => va_P D vwCl (mk u cA) t.heap ∧ va_D A (mk u cA)) A) args s k n A) pc [] (mk u cA) k n := by
  intro H locs hP hD hS
  exact W.vret C.1 C.2.1 C.2.2.2.2.2.1 (fun t ht hW => ⟨⟨u, rfl, hu, by rw [ht]; exact hP, hD⟩, hS.F ht⟩) hS.2.2 h.1 (hlocks := C.2.2.2.2.2.2.1)
theorem c_new {ix ci : Nat} {fs : List Value} (C : cX p R s m meth c D cA M A ls h0) (h : zD M.2.1 pc (.new ix) 3 pc') (hcl : Cond.classLink M.1.cls ix (zC ci).1 ∈ zW) (hin : Cond.instantiable (zC ci).1 (zC ci).2.2 ∈ zW) (hini : Cond.initialized (zC ci).1 ∈ zW) (hci : ci < 8) (hfs : ∀ j, j < (zC ci).2.2 → defaultValue (zty ci j) = vp_V fs j) (hc : k + 1 ≤ R.cells) (hs : n + (zC ci).2.2 ≤ R.slots) (kk : ∀ q : Nat, cS p l e R s m args below meth c D A ls Q pc' (.ref q :: st) (ws ++ [(q, .inr (ci, fs))]) (k + 1) (n + (zC ci).2.2)) : cS p l e R s m args below meth c D A ls Q pc st ws k n := by
  intro H locs hP hD hS
  obtain ⟨h1, rfl⟩ := h
  exact va_new C.1 C.2.1 (fun w hw => C.2.2.2.2.1 w hw args) (zhin ci hci) (zty ci) (zhty ci hci) C.2.2.2.1 (C.2.2.2.2.1 _ hcl args) (C.2.2.2.2.1 _ hin args) (C.2.2.2.2.1 _ hini args) C.2.2.2.2.2.2.2.2.1 hP hD hS C.2.2.2.2.2.2.2.2.2.2.2.1 (zhcl ci hci) hfs hc hs h1 (fun q H1 hP1 hD1 hS1 => kk q H1 locs hP1 hD1 hS1)
theorem c_newq {ix : Nat} {v : Int32} {N : Nat} (C : cX p R s m meth c D cA M A ls h0) (h : zD M.2.1 pc (.anewarray ix) 3 pc') (hcl : Cond.classLink M.1.cls ix "PraisedFields$Land" ∈ zW) (hn : ¬ v < 0) (hN : v.toNatClampNeg = N) (hb : N * 4 ≤ 536870912) (hc : k + 1 ≤ R.cells) (hs : n + N ≤ R.slots) (kk : ∀ q : Nat, cS p l e R s m args below meth c D A ls Q pc' (.ref q :: st) (ws ++ [(q, .inl (cA 4, N, .inr (.inr (.inr (.inr (fun _ => none))))))]) (k + 1) (n + N)) : cS p l e R s m args below meth c D A ls Q pc (.int v :: st) ws k n := by
  intro H locs hP hD hS
  obtain ⟨h1, rfl⟩ := h
  refine va_newq C.1 C.2.1 C.2.2.2.1 (C.2.2.2.2.1 _ hcl args) C.2.2.2.2.2.2.2.2.2.1.2 C.2.2.2.2.2.2.2.2.1 hP hD hS C.2.2.2.2.2.2.2.2.2.2.2.1 hn hN hb hc hs h1 (fun q c1 H1 hK1 hP1 hD1 hS1 => ?_)
  obtain rfl := ztys_same (t := 4) hK1 rfl (fun a b => by
    obtain ⟨kA, comp, a1, a2, a3, a4⟩ := a
    obtain ⟨kB, comp2, b1, b2, b3, b4⟩ := b
    exact Option.some.inj (a4.symm.trans b4))
  exact kk q H1 locs hP1 hD1 hS1
theorem c_aast {q0 qk a v N : Nat} {f : Nat → Option Nat} {vs : List Value} {i : Int32} (C : cX p R s m meth c D cA M A ls h0) (h : zD M.2.1 pc (.aastore) 1 pc') (ha : ws[q0]? = some (a, .inl (cA 4, N, .inr (.inr (.inr (.inr f)))))) (hv : ws[qk]? = some (v, .inr (2, vs))) (hi : vp_in i N) (kk : cS p l e R s m args below meth c D A ls Q pc' st (ws.set q0 (a, .inl (cA 4, N, .inr (.inr (.inr (.inr (va_up f i.toNatClampNeg (some v)))))))) k n) : cS p l e R s m args below meth c D A ls Q pc (.ref v :: .int i :: .ref a :: st) ws k n := by
  intro H locs hP hD hS
  obtain ⟨h1, rfl⟩ := h
  exact va_astq C.1 C.2.1 C.2.2.2.2.2.2.2.2.1 hP hD hS q0 4 qk 2 ha rfl hv rfl hi h1 (fun H1 locs1 hP1 hD1 hS1 => kk H1 locs1 hP1 hD1 hS1)
/-- behind a constructor: the other cells, and its own -/
theorem c_join {w1 : va_W} {q : Nat} {x : va_E} {H H1 : Heap} (hP : va_P D vwCl (ws ++ [(q, x)]) H) (hD : va_D A (ws ++ [(q, x)])) (hF : ∀ y, va_A [(q, x)] H.size y → A y) (hk : ∀ y : Nat, y < H.size → ¬ va_A [(q, x)] H.size y → H1[y]? = H[y]?) (hP1 : va_P D vwCl w1 H1) (hD1 : va_D (va_A [(q, x)] H.size) w1) : va_P D vwCl (ws ++ w1) H1 ∧ va_D A (ws ++ w1) := by
  have atL : ∀ (i : Nat) (y : Nat × va_E), ws[i]? = some y → (ws ++ [(q, x)])[i]? = some y := fun i y hy => by
    rw [List.getElem?_append_left (List.getElem?_eq_some_iff.mp hy).1]; exact hy
  have atR : (ws ++ [(q, x)])[ws.length]? = some (q, x) := by rw [List.getElem?_append_right (Nat.le_refl _), Nat.sub_self]; rfl
  have apart : ∀ (i : Nat) (y : Nat × va_E), ws[i]? = some y → y.1 < H.size ∧ ¬ va_A [(q, x)] H.size y.1 := by
    intro i y hy
    have hl := (hP i y (atL i y hy)).lt
    refine ⟨hl, fun z => ?_⟩
    rcases z with ⟨j, e2, z⟩ | z
    · have hj : j < 1 := (List.getElem?_eq_some_iff.mp z).1
      obtain rfl : j = 0 := by omega
      have z : (q, x) = (y.1, e2) := Option.some.inj z
      have := hD.1 i ws.length y (q, x) (atL i y hy) atR (congrArg Prod.fst z).symm
      have hi := (List.getElem?_eq_some_iff.mp hy).1
      omega
    · omega
  refine ⟨va_P.app (fun i y hy => (hP i y (atL i y hy)).kept (hk y.1 (apart i y hy).1 (apart i y hy).2)) hP1, va_D.app ⟨fun i j a b ha hb hab => hD.1 i j a b (atL i a ha) (atL j b hb) hab, fun i y hy => hD.2 i y (atL i y hy)⟩ (hD1.weaken (fun i y _ z => hF y.1 z)) (fun i j a b ha hb hab => ?_)⟩
  exact (apart i a ha).2 (by rw [hab]; exact hD1.2 j b hb)
theorem c_go {M' : ZM} {ci mc ms q : Nat} {fs : List Value} {mk : (Nat → Nat) → (Nat → ClassId) → va_W} {H : Heap} {locs : List Loc} {a : Array Value} {st0 : List Value} (hA : ∀ q, s.heap.size ≤ q → A q)
    (hr : va_Run p l e R s m args below meth c H locs k n mc ms (F0 m pc ls st0) st (va_Qv (fun u : Nat → Nat => u 0 = q) (fun u t => va_P D vwCl (mk u cA) t.heap ∧ va_D (va_A [(q, .inr (ci, fs))] H.size) (mk u cA)) (va_A [(q, .inr (ci, fs))] H.size) a) (va_A [(q, .inr (ci, fs))] H.size))
    (hP : va_P D vwCl (ws ++ [(q, .inr (ci, fs))]) H) (hD : va_D A (ws ++ [(q, .inr (ci, fs))])) (hS : va_S A s.heap H locs) (kk : ∀ u : Nat → Nat, u 0 = q → cS p l e R s m args below meth c D A ls Q (pc + 3) st (ws ++ mk u cA) (k + mc) (n + ms)) : W p l e R s m args below meth c H locs k n Q (F0 m pc ls st0) := by
  have hF : ∀ y, va_A [(q, .inr (ci, fs))] H.size y → A y := fun y z => by
    rcases z with ⟨j, e2, z⟩ | z
    · have hj : j < 1 := (List.getElem?_eq_some_iff.mp z).1
      obtain rfl : j = 0 := by omega
      have z : (q, (.inr (ci, fs) : va_E)) = (y, e2) := Option.some.inj z
      rw [← show q = y from congrArg Prod.fst z]
      exact hD.2 ws.length (q, .inr (ci, fs)) (by rw [List.getElem?_append_right (Nat.le_refl _), Nat.sub_self]; rfl)
    · exact hA y (Nat.le_trans hS.1 z)
  refine va_callv hr hS (fun y _ z => hF y z) hF (fun u t H1 locs1 ht hvm hu hB hz hk hS1 => ?_)
  obtain ⟨hP1, hD1⟩ := hB
  rw [ht] at hP1
  obtain ⟨hP2, hD2⟩ := c_join hP hD hF hk hP1 hD1
  exact kk u hu H1 locs1 hP2 hD2 hS1
theorem c_ctor {M' : ZM} {ix ci mc ms q : Nat} {fs : List Value} {mk : (Nat → Nat) → (Nat → ClassId) → va_W} {rm : Room} {host : String} (HM : cMet M' ci fs mk rm mc ms) (C : cX p R s m meth c D cA M A ls h0) (h : zD M.2.1 pc (.invokespecial ix) 3 pc') (hl : zMN M.1.cls ix M' host) (cw : zCW M' 0) (iw : Cond.instanceMethod M'.1 ∈ zW) (hnm : M'.1.name = "<init>") (hret : M'.2.2.2 = none) (hrc : rm.cells = mc) (hrs : rm.slots = ms) (hR : rm.frames + 1 ≤ R.frames ∧ 8 + (M'.2.2.1 + 11) + rm.locals ≤ R.locals) (hw : (st.map fun v => v.category).sum ≤ 8) (hc : k + mc ≤ R.cells ∧ n + ms ≤ R.slots) (kk : ∀ u : Nat → Nat, u 0 = q → cS p l e R s m args below meth c D A ls Q pc' st (ws ++ mk u cA) (k + mc) (n + ms)) : cS p l e R s m args below meth c D A ls Q pc (.ref q :: st) (ws ++ [(q, .inr (ci, fs))]) k n := by
  intro H locs hP hD hS
  obtain ⟨h1, rfl⟩ := h
  have hq : (ws ++ [(q, (.inr (ci, fs) : va_E))])[ws.length]? = some (q, .inr (ci, fs)) := by rw [List.getElem?_append_right (Nat.le_refl _), Nat.sub_self]; rfl
  have hPq : va_P D vwCl [(q, .inr (ci, fs))] H := fun i y hy => by
    have hj : i < 1 := (List.getElem?_eq_some_iff.mp hy).1
    obtain rfl : i = 0 := by omega
    have hy : (q, (.inr (ci, fs) : va_E)) = y := Option.some.inj hy
    rw [← hy]; exact hP ws.length _ hq
  have hMet := HM l D cA q H.size
  rw [hret] at hMet
  have hrun := va_runIN (p := p) (e := e) (R := R) (below := below) (meth := meth) (locs := locs) (cells := k) (slots := n) (g := F0 m pc ls (.ref q :: st)) (As := []) (rest := st) (Ts := zW) (nL := M.2.2.1) ⟨C.1, C.2.1, C.2.2.1, C.2.2.2.1, fun w hw => C.2.2.2.2.1 w hw args⟩ hMet ⟨va_cnB (Ts := zW) 0 (fun w hw => C.2.2.2.2.1 w hw args) (fun w hw => by rw [List.mem_singleton.mp hw, ← hret]; exact ⟨cw.1, Or.inl (zgood cw.1 rfl)⟩) rfl hrc hrs (va_Nw.of rfl (C.2.2.2.2.1 _ hl args)) (C.2.2.2.2.1 _ cw.2.1 args) cw.2.2.1 hR, hnm, C.2.2.2.2.1 _ iw args⟩ ⟨fun a U g mk2 z => by
      obtain ⟨z1, z2, z3, z4, z5, z6⟩ := z
      have hv : U.vm = (U.calling g mk2 a).vm := rfl
      exact ⟨z1, z2, z3, va_K.moved (u := U) (U := U.calling g mk2 a) (Vm.Alike.refl U.vm) z4, z5.same hv, zAC.warm (s := U) (U := U.calling g mk2 a) (State.WarmedH.refl U) z6⟩, fun U hU hW => ⟨rfl, by rw [hU], by rw [hU]; exact hPq, va_K.moved hW.alike C.2.2.2.2.2.2.2.2.1, C.2.2.2.2.1.warm hW, C.2.2.2.2.2.2.2.2.2.1.warm hW⟩⟩ rfl rfl C.2.2.2.2.2.2.2.2.2.2.1.1 rfl (lv_room hw) h1 hc
  exact c_go (M' := M') C.2.2.2.2.2.2.2.2.2.2.2.1 hrun hP hD hS kk
end CT
