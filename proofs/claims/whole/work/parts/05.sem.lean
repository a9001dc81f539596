/-! THE JUDGEMENTS: zSem (from here on the method returns so), zEv (a method, called so, returns so) -/
def zTb (U : State) : Prop := ∀ w ∈ zW, ∀ a : Array Value, w.before a U = true
def zlens : List Nat := [5, 4, 3, 4, 4, 4]
def zbyts : List (List Int32) := [[112, 108, 97, 105, 110], [118, 97, 105, 110], [115, 104, 121], [100, 101, 97, 102], [98, 97, 110, 100], [103, 108, 117, 116]]
def zpool : List (Nat × String) := [(118, "plain"), (124, "vain"), (126, "shy"), (128, "deaf"), (130, "band"), (132, "glut")]
/-- the String constants (cells 70 to 75, their bytes 80 to 85), and the JDK's statics -/
def zExt (ad : Nat → Nat) (U : State) (H : Heap) : Prop :=
  vk_S 6 zlens zbyts (fun i => ad (70 + i)) (fun i => ad (80 + i)) (zA ad) U H ∧
  (∀ (i : Nat) (q : Nat × String), zpool[i]? = some q → vk_R RX5 q.1 q.2 (ad (70 + i)) U) ∧
  va_Z "java/lang/String" "COMPACT_STRINGS" "Z" (.int 1) (zA ad) U H ∧ va_Zq "jdk/internal/util/Preconditions" "SIOOBE_FORMATTER" "Ljava/util/function/BiFunction;" (zA ad) U H
theorem zExt.kept {ad : Nat → Nat} {U : State} {H H1 : Heap} (h : zExt ad U H) (hq : ∀ a : Nat, a < H.size → ¬ zA ad a → H1[a]? = H[a]?) : zExt ad U H1 := ⟨h.1.kept hq, h.2.1, h.2.2.1.kept hq, h.2.2.2.kept hq⟩
theorem zExt.warm {ad : Nat → Nat} {s U : State} {H : Heap} (hW : s.WarmedH U.vm) (h : zExt ad s H) : zExt ad U H := ⟨h.1.moved hW.alike, fun i q hi => (h.2.1 i q hi).warm hW, h.2.2.1.moved hW.alike, h.2.2.2.moved hW.alike⟩
theorem zTb.warm {s U : State} (hW : s.WarmedH U.vm) (h : zTb s) : zTb U := by
  intro w hw a
  have hk := (List.mem_filter.mp hw).2
  have h0 := h w hw #[]
  unfold zok at hk
  rcases Bool.or_eq_true _ _ |>.mp hk with h1 | h1
  · exact word_at hW (Or.inl h1) h0
  · cases w <;> first | (simp [zNest] at h1; done) | exact va_Nw.use rfl (va_Nw.warmM hW h0)
theorem zTb.same {u U : State} (hv : u.vm = U.vm) (h : zTb u) : zTb U := by
  intro w hw a
  have hk := (List.mem_filter.mp hw).2
  have h0 := h w hw #[]
  have ho : w.onTables = true := by
    unfold zok at hk
    rcases Bool.or_eq_true _ _ |>.mp hk with h1 | h1
    · exact (Bool.and_eq_true _ _ |>.mp h1).1
    · cases w <;> first | (simp [zNest] at h1; done) | rfl
  exact va_tabs ho hv h0
def zPc (D : va_G) (ad : Nat → Nat) (cA : Nat → ClassId) (args : List Value) (S : ZSt) : Array Value → State → Prop := va_Pc (args.map (cv ad)) (fun U => va_P D vwCl (zws ad cA S) U.heap ∧ va_K D vwCl (ztys cA) U ∧ zTb U ∧ zInj ad ∧ zExt ad U U.heap)
def zQc (D : va_G) (ad : Nat → Nat) (cA : Nat → ClassId) (Q : Option Value → ZSt → Prop) : Array Value → State → Outcome → State → Prop := fun _ st o t => (∃ (r : Option Value) (S' : ZSt), o = .returned (r.map (cv ad)) ∧ Q r S' ∧ va_P D vwCl (zws ad cA S') t.heap) ∧ va_F (zA ad) st t
def zEv (d : Nat) (M : ZM) (args : List Value) (S : ZSt) (Q : Option Value → ZSt → Prop) : Prop :=
  ∀ (l : Launch) (D : va_G) (ad : Nat → Nat) (cA : Nat → ClassId) (rm : Room), rm.cells = 0 → rm.slots = 0 → d ≤ rm.frames → 36 * d ≤ rm.locals →
    Met l M.1 [.code M.1 M.2.1 M.2.2.1 M.2.2.2] rm (zPc D ad cA args S) (zQc D ad cA Q) 0 0 (zA ad)
theorem zEv.mono {d d' : Nat} {M : ZM} {args : List Value} {S : ZSt} {Q : Option Value → ZSt → Prop} (h : zEv d M args S Q) (hd : d ≤ d') : zEv d' M args S Q := fun l D ad cA rm a b c e => h l D ad cA rm a b (by omega) (by omega)
def zCtx (p : Program) (R : Room) (s : State) (m : MethodId) (args : Array Value) (meth : Method) (c : Code) (D : va_G) (ad : Nat → Nat) (cA : Nat → ClassId) (d : Nat) (M : ZM) : Prop :=
  p.tables.exec = Jvm.exec ∧ c.code = M.2.1 ∧ c.maxLocals = M.2.2.1 ∧ s.vm.findClass M.1.cls = some m.cls ∧ zTb s ∧ meth.sig.returnType = M.2.2.2 ∧ meth.locks = false ∧ d ≤ R.frames ∧ 36 * d ≤ R.locals ∧ va_K D vwCl (ztys cA) s ∧ zInj ad ∧ zExt ad s s.heap
def zSem (d : Nat) (M : ZM) (pc : Nat) (ls : List (Option Value)) (st : List Value) (S : ZSt) (Q : Option Value → ZSt → Prop) : Prop :=
  ∀ (p : Program) (l : Launch) (e : Env) (R : Room) (s : State) (m : MethodId) (args : Array Value) (below : List Frame) (meth : Method) (c : Code) (D : va_G) (ad : Nat → Nat) (cA : Nat → ClassId) (H : Heap) (locs : List Loc) (ls' : Array Slot),
    zCtx p R s m args meth c D ad cA d M → va_P D vwCl (zws ad cA S) H → va_S (zA ad) s.heap H locs → LH ad ls' M.2.2.1 ls →
    W p l e R s m args below meth c H locs 0 0 (MQ below (zQc D ad cA Q) args s 0 0 (zA ad)) (F0 m pc ls' (st.map (cv ad)))
/-- the locals with which a method begins -/
def zsl (vs : List Value) : List (Option Value) := vs.flatMap fun v => if v.category = 2 then [some v, none] else [some v]
def zent (n : Nat) (vs : List Value) : List (Option Value) := zsl vs ++ List.replicate (n - (lg_sl vs).length) none
theorem zprs_app (ad : Nat → Nat) : ∀ (x y : List (Option Value)) (b : Nat), zprs ad b (x ++ y) = zprs ad b x ++ zprs ad (b + x.length) y
  | [], y, b => rfl
  | none :: x, y, b => by
    rw [List.cons_append, zprs, zprs, zprs_app ad x y (b + 1), List.length_cons]
    congr 2; omega
  | some v :: x, y, b => by
    rw [List.cons_append, zprs, zprs, zprs_app ad x y (b + 1), List.length_cons, List.cons_append]
    congr 3; omega
theorem zprs_none (ad : Nat → Nat) : ∀ (n b : Nat), zprs ad b (List.replicate n none) = []
  | 0, _ => rfl
  | n + 1, b => by rw [List.replicate_succ, zprs]; exact zprs_none ad n (b + 1)
theorem zsl_ok (ad : Nat → Nat) : ∀ (vs : List Value) (b : Nat), (zsl vs).length = (lg_sl vs).length ∧ zprs ad b (zsl vs) = lv_args b (vs.map (cv ad))
  | [], b => ⟨rfl, rfl⟩
  | v :: vs, b => by
    by_cases hc : v.category = 2
    · obtain ⟨a1, a2⟩ := zsl_ok ad vs (b + 2)
      have e1 : zsl (v :: vs) = some v :: none :: zsl vs := by simp [zsl, hc]
      have e2 : lg_sl (v :: vs) = .val v :: .second :: lg_sl vs := by simp [lg_sl, hc]
      refine ⟨by rw [e1, e2]; simp [a1], ?_⟩
      rw [e1, zprs, zprs, List.map_cons, lv_args, cv_cat, if_pos hc, a2]
    · obtain ⟨a1, a2⟩ := zsl_ok ad vs (b + 1)
      have e1 : zsl (v :: vs) = some v :: zsl vs := by simp [zsl, hc]
      have e2 : lg_sl (v :: vs) = .val v :: lg_sl vs := by simp [lg_sl, hc]
      refine ⟨by rw [e1, e2]; simp [a1], ?_⟩
      rw [e1, zprs, List.map_cons, lv_args, cv_cat, if_neg hc, a2]
theorem zent_ok (ad : Nat → Nat) (vs : List Value) (n b : Nat) (h : (lg_sl vs).length ≤ n) : (zent n vs).length = n ∧ zprs ad b (zent n vs) = lv_args b (vs.map (cv ad)) := by
  obtain ⟨a1, a2⟩ := zsl_ok ad vs b
  refine ⟨by simp [zent, a1]; omega, ?_⟩
  rw [zent, zprs_app, zprs_none, List.append_nil, a2]
theorem zsl_len (ad : Nat → Nat) (vs : List Value) : (lg_sl (vs.map (cv ad))).length = (lg_sl vs).length := by
  induction vs with
  | nil => rfl
  | cons v t ih =>
    simp only [lg_sl, List.map_cons, List.flatMap_cons, List.length_append, cv_cat] at ih ⊢
    rw [ih]
    by_cases h : v.category = 2 <;> simp [h]
theorem zEv.of {d : Nat} {M : ZM} {args : List Value} {S : ZSt} {Q : Option Value → ZSt → Prop} {ls : List (Option Value)} {n : Nat} (cw : zCW M n) (hn : (lg_sl args).length ≤ M.2.2.1) (hl : zent M.2.2.1 args = ls) (h : zSem d M 0 ls [] S Q) : zEv d M args S Q := by
  intro l D ad cA rm h1 h2 h3 h4
  refine Met.ofW (cc := M.2.1) (maxL := M.2.2.1) (ret := M.2.2.2) cw.2.2.2.2 rfl ?_
  intro p e s m a below meth c s₁ B hml hv
  obtain ⟨rfl, hP, hK, hT, hI, hE⟩ := hv
  rw [lg_entry_eq]
  have hn' : (lg_sl (args.map (cv ad))).length ≤ M.2.2.1 := by rw [zsl_len]; exact hn
  obtain ⟨e1, e2⟩ := zent_ok ad args M.2.2.1 0 hn
  have hle := lv_entry (args.map (cv ad)) hn'
  rw [← e2, hl] at hle
  exact h p l e _ s m _ below meth c D ad cA s.heap [] _ ⟨B.exec, B.bytes, hml, findClass_of_methodNamed B.named, hT, B.returns, B.notSynchronized, h3, h4, hK, hI, hE⟩ hP va_S.rf ⟨hle, by rw [← hl]; exact e1⟩
theorem zSem.mono {d d' : Nat} {M : ZM} {pc : Nat} {ls : List (Option Value)} {st : List Value} {S : ZSt} {Q : Option Value → ZSt → Prop} (h : zSem d M pc ls st S Q) (hd : d ≤ d') : zSem d' M pc ls st S Q := by
  intro p l e R s m args below meth c D ad cA H locs ls' C
  obtain ⟨c1, c2, c3, c4, c5, c6, c7, c8, c9, c10⟩ := C
  exact h p l e R s m args below meth c D ad cA H locs ls' ⟨c1, c2, c3, c4, c5, c6, c7, by omega, by omega, c10⟩
/-- what isn't needed is forgotten -/
theorem zSem.sub {d : Nat} {M : ZM} {pc : Nat} {ls l2 : List (Option Value)} {st : List Value} {S : ZSt} {Q : Option Value → ZSt → Prop} (hs : zfg l2 ls) (h : zSem d M pc l2 st S Q) : zSem d M pc ls st S Q := fun p l e R s m args below meth c D ad cA H locs ls' C hP hS hl =>
  h p l e R s m args below meth c D ad cA H locs ls' C hP hS (hl.sub (zfg_len _ _ hs) (zfg_at _ _ hs))
theorem zcat (ad : Nat → Nat) (st : List Value) : ((st.map (cv ad)).map fun v => v.category).sum = (st.map fun v => v.category).sum := by
  rw [List.map_map]
  congr 1
  apply List.map_congr_left
  intro v _
  exact cv_cat ad v
theorem zblind (D : va_G) (ad : Nat → Nat) (cA : Nat → ClassId) (args : List Value) (S : ZSt) : FrameBlind (zPc D ad cA args S) := by
  intro a U g mk h
  obtain ⟨h1, h2, h3, h4, h5, h6⟩ := h
  have hv : U.vm = (U.calling g mk a).vm := rfl
  refine ⟨h1, h2, va_K.moved (u := U) (U := U.calling g mk a) (Vm.Alike.refl U.vm) h3, h4.same hv, h5, ?_⟩
  exact ⟨h6.1.moved (Vm.Alike.refl U.vm), fun i q hi => (h6.2.1 i q hi).same hv.symm, h6.2.2.1.moved (Vm.Alike.refl U.vm), h6.2.2.2.moved (Vm.Alike.refl U.vm)⟩
