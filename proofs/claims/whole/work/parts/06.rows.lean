section ZR
variable {d : Nat} {M : ZM} {pc pc' : Nat} {ls : List (Option Value)} {st : List Value} {S : ZSt} {Q : Option Value → ZSt → Prop}
theorem s_iconst {n : Int} {v : Int32} (h : zD M.2.1 pc (.iconst n) 1 pc') (hv : Int32.ofInt n = v) (k : zSem d M pc' ls (.int v :: st) S Q) : zSem d M pc ls (st) S Q := by
  intro p l e R s m args below meth c D ad cA H locs ls' C hP hS hl
  obtain ⟨h1, rfl⟩ := h
  exact lv_iconst C.1 C.2.1 h1 hv (k p l e R s m args below meth c D ad cA H locs ls' C hP hS hl)
theorem s_bipush {n : Int} {v : Int32} (h : zD M.2.1 pc (.bipush n) 2 pc') (hv : (Int8.ofInt n).toInt32 = v) (k : zSem d M pc' ls (.int v :: st) S Q) : zSem d M pc ls (st) S Q := by
  intro p l e R s m args below meth c D ad cA H locs ls' C hP hS hl
  obtain ⟨h1, rfl⟩ := h
  exact lv_bipush C.1 C.2.1 h1 hv (k p l e R s m args below meth c D ad cA H locs ls' C hP hS hl)
theorem s_sipush {n : Int} {v : Int32} (h : zD M.2.1 pc (.sipush n) 3 pc') (hv : (Int16.ofInt n).toInt32 = v) (k : zSem d M pc' ls (.int v :: st) S Q) : zSem d M pc ls (st) S Q := by
  intro p l e R s m args below meth c D ad cA H locs ls' C hP hS hl
  obtain ⟨h1, rfl⟩ := h
  exact lv_sipush C.1 C.2.1 h1 hv (k p l e R s m args below meth c D ad cA H locs ls' C hP hS hl)
theorem s_lconst {n : Fin 2} {v : Int64} (h : zD M.2.1 pc (.lconst n) 1 pc') (hv : Int64.ofNat (n : Nat) = v) (k : zSem d M pc' ls (.long v :: st) S Q) : zSem d M pc ls (st) S Q := by
  intro p l e R s m args below meth c D ad cA H locs ls' C hP hS hl
  obtain ⟨h1, rfl⟩ := h
  exact lv_lconst C.1 C.2.1 h1 hv (k p l e R s m args below meth c D ad cA H locs ls' C hP hS hl)
theorem s_iload_n {i : Fin 4} {x : Int32} (h : zD M.2.1 pc (.iload_n i) 1 pc') (hx : ls[(i : Nat)]? = some (some (.int x))) (k : zSem d M pc' ls (.int x :: st) S Q) : zSem d M pc ls (st) S Q := by
  intro p l e R s m args below meth c D ad cA H locs ls' C hP hS hl
  obtain ⟨h1, rfl⟩ := h
  exact lv_iload_n C.1 C.2.1 h1 rfl (hl.get hx) (k p l e R s m args below meth c D ad cA H locs ls' C hP hS hl)
theorem s_iload {i : Nat} {x : Int32} (h : zD M.2.1 pc (.iload i) 2 pc') (hx : ls[i]? = some (some (.int x))) (k : zSem d M pc' ls (.int x :: st) S Q) : zSem d M pc ls (st) S Q := by
  intro p l e R s m args below meth c D ad cA H locs ls' C hP hS hl
  obtain ⟨h1, rfl⟩ := h
  exact lv_iload C.1 C.2.1 h1 (hl.get hx) (k p l e R s m args below meth c D ad cA H locs ls' C hP hS hl)
theorem s_lload_n {i : Fin 4} {x : Int64} (h : zD M.2.1 pc (.lload_n i) 1 pc') (hx : ls[(i : Nat)]? = some (some (.long x))) (k : zSem d M pc' ls (.long x :: st) S Q) : zSem d M pc ls (st) S Q := by
  intro p l e R s m args below meth c D ad cA H locs ls' C hP hS hl
  obtain ⟨h1, rfl⟩ := h
  exact lv_lload_n C.1 C.2.1 h1 rfl (hl.get hx) (k p l e R s m args below meth c D ad cA H locs ls' C hP hS hl)
theorem s_lload {i : Nat} {x : Int64} (h : zD M.2.1 pc (.lload i) 2 pc') (hx : ls[i]? = some (some (.long x))) (k : zSem d M pc' ls (.long x :: st) S Q) : zSem d M pc ls (st) S Q := by
  intro p l e R s m args below meth c D ad cA H locs ls' C hP hS hl
  obtain ⟨h1, rfl⟩ := h
  exact lv_lload C.1 C.2.1 h1 (hl.get hx) (k p l e R s m args below meth c D ad cA H locs ls' C hP hS hl)
theorem s_aload_n {i : Fin 4} {x : Nat} (h : zD M.2.1 pc (.aload_n i) 1 pc') (hx : ls[(i : Nat)]? = some (some (.ref x))) (k : zSem d M pc' ls (.ref x :: st) S Q) : zSem d M pc ls (st) S Q := by
  intro p l e R s m args below meth c D ad cA H locs ls' C hP hS hl
  obtain ⟨h1, rfl⟩ := h
  exact lv_aload_n C.1 C.2.1 h1 rfl (hl.get hx) (k p l e R s m args below meth c D ad cA H locs ls' C hP hS hl)
theorem s_aload {i : Nat} {x : Nat} (h : zD M.2.1 pc (.aload i) 2 pc') (hx : ls[i]? = some (some (.ref x))) (k : zSem d M pc' ls (.ref x :: st) S Q) : zSem d M pc ls (st) S Q := by
  intro p l e R s m args below meth c D ad cA H locs ls' C hP hS hl
  obtain ⟨h1, rfl⟩ := h
  exact lv_aload C.1 C.2.1 h1 (hl.get hx) (k p l e R s m args below meth c D ad cA H locs ls' C hP hS hl)
theorem s_iadd {x y : Int32} (h : zD M.2.1 pc (.iadd) 1 pc') (k : zSem d M pc' ls (.int (x + y) :: st) S Q) : zSem d M pc ls (.int y :: .int x :: st) S Q := by
  intro p l e R s m args below meth c D ad cA H locs ls' C hP hS hl
  obtain ⟨h1, rfl⟩ := h
  exact lv_iadd C.1 C.2.1 h1 (k p l e R s m args below meth c D ad cA H locs ls' C hP hS hl)
theorem s_isub {x y : Int32} (h : zD M.2.1 pc (.isub) 1 pc') (k : zSem d M pc' ls (.int (x - y) :: st) S Q) : zSem d M pc ls (.int y :: .int x :: st) S Q := by
  intro p l e R s m args below meth c D ad cA H locs ls' C hP hS hl
  obtain ⟨h1, rfl⟩ := h
  exact lv_isub C.1 C.2.1 h1 (k p l e R s m args below meth c D ad cA H locs ls' C hP hS hl)
theorem s_imul {x y : Int32} (h : zD M.2.1 pc (.imul) 1 pc') (k : zSem d M pc' ls (.int (x * y) :: st) S Q) : zSem d M pc ls (.int y :: .int x :: st) S Q := by
  intro p l e R s m args below meth c D ad cA H locs ls' C hP hS hl
  obtain ⟨h1, rfl⟩ := h
  exact lv_imul C.1 C.2.1 h1 (k p l e R s m args below meth c D ad cA H locs ls' C hP hS hl)
theorem s_iand {x y : Int32} (h : zD M.2.1 pc (.iand) 1 pc') (k : zSem d M pc' ls (.int (x &&& y) :: st) S Q) : zSem d M pc ls (.int y :: .int x :: st) S Q := by
  intro p l e R s m args below meth c D ad cA H locs ls' C hP hS hl
  obtain ⟨h1, rfl⟩ := h
  exact lv_iand C.1 C.2.1 h1 (k p l e R s m args below meth c D ad cA H locs ls' C hP hS hl)
theorem s_ior {x y : Int32} (h : zD M.2.1 pc (.ior) 1 pc') (k : zSem d M pc' ls (.int (x ||| y) :: st) S Q) : zSem d M pc ls (.int y :: .int x :: st) S Q := by
  intro p l e R s m args below meth c D ad cA H locs ls' C hP hS hl
  obtain ⟨h1, rfl⟩ := h
  exact lv_ior C.1 C.2.1 h1 (k p l e R s m args below meth c D ad cA H locs ls' C hP hS hl)
theorem s_ixor {x y : Int32} (h : zD M.2.1 pc (.ixor) 1 pc') (k : zSem d M pc' ls (.int (x ^^^ y) :: st) S Q) : zSem d M pc ls (.int y :: .int x :: st) S Q := by
  intro p l e R s m args below meth c D ad cA H locs ls' C hP hS hl
  obtain ⟨h1, rfl⟩ := h
  exact lv_ixor C.1 C.2.1 h1 (k p l e R s m args below meth c D ad cA H locs ls' C hP hS hl)
theorem s_ishl {x y : Int32} (h : zD M.2.1 pc (.ishl) 1 pc') (k : zSem d M pc' ls (.int (x <<< (y &&& 31)) :: st) S Q) : zSem d M pc ls (.int y :: .int x :: st) S Q := by
  intro p l e R s m args below meth c D ad cA H locs ls' C hP hS hl
  obtain ⟨h1, rfl⟩ := h
  exact lv_ishl C.1 C.2.1 h1 (k p l e R s m args below meth c D ad cA H locs ls' C hP hS hl)
theorem s_ishr {x y : Int32} (h : zD M.2.1 pc (.ishr) 1 pc') (k : zSem d M pc' ls (.int (x >>> (y &&& 31)) :: st) S Q) : zSem d M pc ls (.int y :: .int x :: st) S Q := by
  intro p l e R s m args below meth c D ad cA H locs ls' C hP hS hl
  obtain ⟨h1, rfl⟩ := h
  exact lv_ishr C.1 C.2.1 h1 (k p l e R s m args below meth c D ad cA H locs ls' C hP hS hl)
theorem s_idiv {x y : Int32} (h : zD M.2.1 pc (.idiv) 1 pc') (hy : ¬ y = 0) (k : zSem d M pc' ls (.int (x / y) :: st) S Q) : zSem d M pc ls (.int y :: .int x :: st) S Q := by
  intro p l e R s m args below meth c D ad cA H locs ls' C hP hS hl
  obtain ⟨h1, rfl⟩ := h
  exact lv_idiv C.1 C.2.1 h1 hy (k p l e R s m args below meth c D ad cA H locs ls' C hP hS hl)
theorem s_irem {x y : Int32} (h : zD M.2.1 pc (.irem) 1 pc') (hy : ¬ y = 0) (k : zSem d M pc' ls (.int (x - x / y * y) :: st) S Q) : zSem d M pc ls (.int y :: .int x :: st) S Q := by
  intro p l e R s m args below meth c D ad cA H locs ls' C hP hS hl
  obtain ⟨h1, rfl⟩ := h
  exact lv_irem C.1 C.2.1 h1 hy (k p l e R s m args below meth c D ad cA H locs ls' C hP hS hl)
theorem s_ineg {x : Int32} (h : zD M.2.1 pc (.ineg) 1 pc') (k : zSem d M pc' ls (.int (-x) :: st) S Q) : zSem d M pc ls (.int x :: st) S Q := by
  intro p l e R s m args below meth c D ad cA H locs ls' C hP hS hl
  obtain ⟨h1, rfl⟩ := h
  exact lv_ineg C.1 C.2.1 h1 (k p l e R s m args below meth c D ad cA H locs ls' C hP hS hl)
theorem s_iushr {x y : Int32} (h : zD M.2.1 pc (.iushr) 1 pc') (k : zSem d M pc' ls (.int ((x.toUInt32 >>> (y.toUInt32 &&& Int32.toUInt32 31)).toInt32) :: st) S Q) : zSem d M pc ls (.int y :: .int x :: st) S Q := by
  intro p l e R s m args below meth c D ad cA H locs ls' C hP hS hl
  obtain ⟨h1, rfl⟩ := h
  exact lv_iushr C.1 C.2.1 h1 rfl (k p l e R s m args below meth c D ad cA H locs ls' C hP hS hl)
theorem s_ladd {x y : Int64} (h : zD M.2.1 pc (.ladd) 1 pc') (k : zSem d M pc' ls (.long (x + y) :: st) S Q) : zSem d M pc ls (.long y :: .long x :: st) S Q := by
  intro p l e R s m args below meth c D ad cA H locs ls' C hP hS hl
  obtain ⟨h1, rfl⟩ := h
  exact lv_ladd C.1 C.2.1 h1 (k p l e R s m args below meth c D ad cA H locs ls' C hP hS hl)
theorem s_lmul {x y : Int64} (h : zD M.2.1 pc (.lmul) 1 pc') (k : zSem d M pc' ls (.long (x * y) :: st) S Q) : zSem d M pc ls (.long y :: .long x :: st) S Q := by
  intro p l e R s m args below meth c D ad cA H locs ls' C hP hS hl
  obtain ⟨h1, rfl⟩ := h
  exact lv_lmul C.1 C.2.1 h1 (k p l e R s m args below meth c D ad cA H locs ls' C hP hS hl)
theorem s_ldiv {x y : Int64} (h : zD M.2.1 pc (.ldiv) 1 pc') (hy : ¬ y = 0) (k : zSem d M pc' ls (.long (x / y) :: st) S Q) : zSem d M pc ls (.long y :: .long x :: st) S Q := by
  intro p l e R s m args below meth c D ad cA H locs ls' C hP hS hl
  obtain ⟨h1, rfl⟩ := h
  exact lv_ldiv C.1 C.2.1 h1 hy (k p l e R s m args below meth c D ad cA H locs ls' C hP hS hl)
theorem s_lrem {x y : Int64} (h : zD M.2.1 pc (.lrem) 1 pc') (hy : ¬ y = 0) (k : zSem d M pc' ls (.long (x - x / y * y) :: st) S Q) : zSem d M pc ls (.long y :: .long x :: st) S Q := by
  intro p l e R s m args below meth c D ad cA H locs ls' C hP hS hl
  obtain ⟨h1, rfl⟩ := h
  exact lv_lrem C.1 C.2.1 h1 hy (k p l e R s m args below meth c D ad cA H locs ls' C hP hS hl)
theorem s_i2l {x : Int32} (h : zD M.2.1 pc (.i2l) 1 pc') (k : zSem d M pc' ls (.long x.toInt64 :: st) S Q) : zSem d M pc ls (.int x :: st) S Q := by
  intro p l e R s m args below meth c D ad cA H locs ls' C hP hS hl
  obtain ⟨h1, rfl⟩ := h
  exact lv_i2l C.1 C.2.1 h1 rfl (k p l e R s m args below meth c D ad cA H locs ls' C hP hS hl)
theorem s_i2b {x : Int32} (h : zD M.2.1 pc (.i2b) 1 pc') (k : zSem d M pc' ls (.int x.toInt8.toInt32 :: st) S Q) : zSem d M pc ls (.int x :: st) S Q := by
  intro p l e R s m args below meth c D ad cA H locs ls' C hP hS hl
  obtain ⟨h1, rfl⟩ := h
  exact lv_i2b C.1 C.2.1 h1 rfl (k p l e R s m args below meth c D ad cA H locs ls' C hP hS hl)
theorem s_i2s {x : Int32} (h : zD M.2.1 pc (.i2s) 1 pc') (k : zSem d M pc' ls (.int x.toInt16.toInt32 :: st) S Q) : zSem d M pc ls (.int x :: st) S Q := by
  intro p l e R s m args below meth c D ad cA H locs ls' C hP hS hl
  obtain ⟨h1, rfl⟩ := h
  exact lv_i2s C.1 C.2.1 h1 rfl (k p l e R s m args below meth c D ad cA H locs ls' C hP hS hl)
theorem s_lcmp {x y : Int64} (h : zD M.2.1 pc (.lcmp) 1 pc') (k : zSem d M pc' ls (.int (lg_cmp x y) :: st) S Q) : zSem d M pc ls (.long y :: .long x :: st) S Q := by
  intro p l e R s m args below meth c D ad cA H locs ls' C hP hS hl
  obtain ⟨h1, rfl⟩ := h
  exact W.lcmp C.1 C.2.1 h1 (k p l e R s m args below meth c D ad cA H locs ls' C hP hS hl)
theorem s_dup {v : Value} (h : zD M.2.1 pc (.dup) 1 pc') (hv : v.category = 1) (k : zSem d M pc' ls (v :: v :: st) S Q) : zSem d M pc ls (v :: st) S Q := by
  intro p l e R s m args below meth c D ad cA H locs ls' C hP hS hl
  obtain ⟨h1, rfl⟩ := h
  exact lv_dup C.1 C.2.1 h1 (by rw [cv_cat]; exact hv) (k p l e R s m args below meth c D ad cA H locs ls' C hP hS hl)
theorem s_pop {v : Value} (h : zD M.2.1 pc (.pop) 1 pc') (hv : v.category = 1) (k : zSem d M pc' ls (st) S Q) : zSem d M pc ls (v :: st) S Q := by
  intro p l e R s m args below meth c D ad cA H locs ls' C hP hS hl
  obtain ⟨h1, rfl⟩ := h
  exact lv_pop C.1 C.2.1 h1 (by rw [cv_cat]; exact hv) (k p l e R s m args below meth c D ad cA H locs ls' C hP hS hl)
theorem s_dup2 {v w : Value} (h : zD M.2.1 pc (.dup2) 1 pc') (hv : v.category = 1) (hw : w.category = 1) (k : zSem d M pc' ls (v :: w :: v :: w :: st) S Q) : zSem d M pc ls (v :: w :: st) S Q := by
  intro p l e R s m args below meth c D ad cA H locs ls' C hP hS hl
  obtain ⟨h1, rfl⟩ := h
  exact lv_dup2_11 C.1 C.2.1 h1 (by rw [cv_cat]; exact hv) (by rw [cv_cat]; exact hw) (k p l e R s m args below meth c D ad cA H locs ls' C hP hS hl)
theorem s_ldc {i : Nat} {v : Int32} (h : zD M.2.1 pc (.ldc i) 2 pc') (hc : Cond.constant M.1.cls i v ∈ zW) (k : zSem d M pc' ls (.int v :: st) S Q) : zSem d M pc ls st S Q := by
  intro p l e R s m args below meth c D ad cA H locs ls' C hP hS hl
  obtain ⟨h1, rfl⟩ := h
  exact lv_ldc C.1 C.2.1 C.2.2.2.1 (C.2.2.2.2.1 _ hc args) h1 (k p l e R s m args below meth c D ad cA H locs ls' C hP hS hl)
theorem s_ldc_w {i : Nat} {v : Int32} (h : zD M.2.1 pc (.ldc_w i) 3 pc') (hc : Cond.constant M.1.cls i v ∈ zW) (k : zSem d M pc' ls (.int v :: st) S Q) : zSem d M pc ls st S Q := by
  intro p l e R s m args below meth c D ad cA H locs ls' C hP hS hl
  obtain ⟨h1, rfl⟩ := h
  exact lv_ldcw C.1 C.2.1 C.2.2.2.1 (C.2.2.2.2.1 _ hc args) h1 (k p l e R s m args below meth c D ad cA H locs ls' C hP hS hl)
theorem s_ldc2_w {i : Nat} {v : Int64} (h : zD M.2.1 pc (.ldc2_w i) 3 pc') (hc : Cond.constantLong M.1.cls i v ∈ zW) (k : zSem d M pc' ls (.long v :: st) S Q) : zSem d M pc ls st S Q := by
  intro p l e R s m args below meth c D ad cA H locs ls' C hP hS hl
  obtain ⟨h1, rfl⟩ := h
  exact lv_ldc2 C.1 C.2.1 C.2.2.2.1 (C.2.2.2.2.1 _ hc args) h1 (k p l e R s m args below meth c D ad cA H locs ls' C hP hS hl)
theorem s_ldcS {i ix : Nat} {tx : String} (h : zD M.2.1 pc (.ldc ix) 2 pc') (hM : M.1.cls = RX5) (hc : zpool[i]? = some (ix, tx)) (k : zSem d M pc' ls (.ref (70 + i) :: st) S Q) : zSem d M pc ls st S Q := by
  intro p l e R s m args below meth c D ad cA H locs ls' C hP hS hl
  obtain ⟨h1, rfl⟩ := h
  have hown := C.2.2.2.1
  rw [hM] at hown
  exact va_ldcS C.1 C.2.1 hown (C.2.2.2.2.2.2.2.2.2.2.2.2.1 i _ hc) h1 (k p l e R s m args below meth c D ad cA H locs ls' C hP hS hl)
theorem s_istoreG {i : Nat} {x : Int32} (h : zD M.2.1 pc (.istore i) 2 pc') (hi : (i : Nat) < ls.length) (hp : ∀ (j : Nat) (q : Option Value), (i : Nat) = j + 1 → ls[j]? = some q → znl q = true) (k : zSem d M pc' (ls.set (i : Nat) (some (.int x))) st S Q) : zSem d M pc ls (.int x :: st) S Q := by
  intro p l e R s m args below meth c D ad cA H locs ls' C hP hS hl
  obtain ⟨h1, rfl⟩ := h
  exact lv_istore C.1 C.2.1 h1 hl.1 (by rw [← hl.2]; exact hi) rfl (fun l2 h2 => k p l e R s m args below meth c D ad cA H locs l2 C hP hS (hl.set1 (v := .int x) hp h2))
theorem s_istore_nG {i : Fin 4} {x : Int32} (h : zD M.2.1 pc (.istore_n i) 1 pc') (hi : (i : Nat) < ls.length) (hp : ∀ (j : Nat) (q : Option Value), (i : Nat) = j + 1 → ls[j]? = some q → znl q = true) (k : zSem d M pc' (ls.set (i : Nat) (some (.int x))) st S Q) : zSem d M pc ls (.int x :: st) S Q := by
  intro p l e R s m args below meth c D ad cA H locs ls' C hP hS hl
  obtain ⟨h1, rfl⟩ := h
  exact lv_istore_n C.1 C.2.1 h1 rfl hl.1 (by rw [← hl.2]; exact hi) rfl (fun l2 h2 => k p l e R s m args below meth c D ad cA H locs l2 C hP hS (hl.set1 (v := .int x) hp h2))
theorem s_astoreG {i : Nat} {x : Nat} (h : zD M.2.1 pc (.astore i) 2 pc') (hi : (i : Nat) < ls.length) (hp : ∀ (j : Nat) (q : Option Value), (i : Nat) = j + 1 → ls[j]? = some q → znl q = true) (k : zSem d M pc' (ls.set (i : Nat) (some (.ref x))) st S Q) : zSem d M pc ls (.ref x :: st) S Q := by
  intro p l e R s m args below meth c D ad cA H locs ls' C hP hS hl
  obtain ⟨h1, rfl⟩ := h
  exact lv_astore C.1 C.2.1 h1 hl.1 (by rw [← hl.2]; exact hi) rfl (fun l2 h2 => k p l e R s m args below meth c D ad cA H locs l2 C hP hS (hl.set1 (v := .ref x) hp h2))
theorem s_astore_nG {i : Fin 4} {x : Nat} (h : zD M.2.1 pc (.astore_n i) 1 pc') (hi : (i : Nat) < ls.length) (hp : ∀ (j : Nat) (q : Option Value), (i : Nat) = j + 1 → ls[j]? = some q → znl q = true) (k : zSem d M pc' (ls.set (i : Nat) (some (.ref x))) st S Q) : zSem d M pc ls (.ref x :: st) S Q := by
  intro p l e R s m args below meth c D ad cA H locs ls' C hP hS hl
  obtain ⟨h1, rfl⟩ := h
  exact lv_astore_n C.1 C.2.1 h1 rfl hl.1 (by rw [← hl.2]; exact hi) rfl (fun l2 h2 => k p l e R s m args below meth c D ad cA H locs l2 C hP hS (hl.set1 (v := .ref x) hp h2))
theorem s_lstoreG {i : Nat} {x : Int64} (h : zD M.2.1 pc (.lstore i) 2 pc') (hi : (i : Nat) + 1 < ls.length) (hp : ∀ (j : Nat) (q : Option Value), (i : Nat) = j + 1 → ls[j]? = some q → znl q = true) (k : zSem d M pc' ((ls.set (i : Nat) (some (.long x))).set ((i : Nat) + 1) none) st S Q) : zSem d M pc ls (.long x :: st) S Q := by
  intro p l e R s m args below meth c D ad cA H locs ls' C hP hS hl
  obtain ⟨h1, rfl⟩ := h
  exact lv_lstore C.1 C.2.1 h1 hl.1 (by rw [← hl.2]; exact hi) rfl (fun l2 h2 => k p l e R s m args below meth c D ad cA H locs l2 C hP hS (hl.set2 (v := .long x) hp h2))
theorem s_lstore_nG {i : Fin 4} {x : Int64} (h : zD M.2.1 pc (.lstore_n i) 1 pc') (hi : (i : Nat) + 1 < ls.length) (hp : ∀ (j : Nat) (q : Option Value), (i : Nat) = j + 1 → ls[j]? = some q → znl q = true) (k : zSem d M pc' ((ls.set (i : Nat) (some (.long x))).set ((i : Nat) + 1) none) st S Q) : zSem d M pc ls (.long x :: st) S Q := by
  intro p l e R s m args below meth c D ad cA H locs ls' C hP hS hl
  obtain ⟨h1, rfl⟩ := h
  exact lv_lstore_n C.1 C.2.1 h1 rfl hl.1 (by rw [← hl.2]; exact hi) rfl (fun l2 h2 => k p l e R s m args below meth c D ad cA H locs l2 C hP hS (hl.set2 (v := .long x) hp h2))
theorem s_istore_0 {a0 : Option Value} {r : List (Option Value)} {x : Int32} (h : zD M.2.1 pc (.istore_n 0) 1 pc') (k : zSem d M pc' (some (.int x) :: r) st S Q) : zSem d M pc (a0 :: r) (.int x :: st) S Q := s_istore_nG h (by simp only [List.length_cons]; first | omega | (show _ < _; simp)) (fun j q e => absurd e (Nat.succ_ne_zero j).symm) k
theorem s_istore_1 {a0 a1 : Option Value} {r : List (Option Value)} {x : Int32} (h : zD M.2.1 pc (.istore_n 1) 1 pc') (hz : znl a0 = true) (k : zSem d M pc' (a0 :: some (.int x) :: r) st S Q) : zSem d M pc (a0 :: a1 :: r) (.int x :: st) S Q := s_istore_nG h (by simp only [List.length_cons]; first | omega | (show _ < _; simp)) (fun j q e hq => by obtain rfl : j = 0 := (by have e : 1 = j + 1 := e; omega); have hq : some a0 = some q := hq; cases hq; exact hz) k
theorem s_istore_2 {a0 a1 a2 : Option Value} {r : List (Option Value)} {x : Int32} (h : zD M.2.1 pc (.istore_n 2) 1 pc') (hz : znl a1 = true) (k : zSem d M pc' (a0 :: a1 :: some (.int x) :: r) st S Q) : zSem d M pc (a0 :: a1 :: a2 :: r) (.int x :: st) S Q := s_istore_nG h (by simp only [List.length_cons]; first | omega | (show _ < _; simp)) (fun j q e hq => by obtain rfl : j = 1 := (by have e : 2 = j + 1 := e; omega); have hq : some a1 = some q := hq; cases hq; exact hz) k
theorem s_istore_3 {a0 a1 a2 a3 : Option Value} {r : List (Option Value)} {x : Int32} (h : zD M.2.1 pc (.istore_n 3) 1 pc') (hz : znl a2 = true) (k : zSem d M pc' (a0 :: a1 :: a2 :: some (.int x) :: r) st S Q) : zSem d M pc (a0 :: a1 :: a2 :: a3 :: r) (.int x :: st) S Q := s_istore_nG h (by simp only [List.length_cons]; first | omega | (show _ < _; simp)) (fun j q e hq => by obtain rfl : j = 2 := (by have e : 3 = j + 1 := e; omega); have hq : some a2 = some q := hq; cases hq; exact hz) k
theorem s_istore_4 {a0 a1 a2 a3 a4 : Option Value} {r : List (Option Value)} {x : Int32} (h : zD M.2.1 pc (.istore 4) 2 pc') (hz : znl a3 = true) (k : zSem d M pc' (a0 :: a1 :: a2 :: a3 :: some (.int x) :: r) st S Q) : zSem d M pc (a0 :: a1 :: a2 :: a3 :: a4 :: r) (.int x :: st) S Q := s_istoreG h (by simp only [List.length_cons]; first | omega | (show _ < _; simp)) (fun j q e hq => by obtain rfl : j = 3 := (by have e : 4 = j + 1 := e; omega); have hq : some a3 = some q := hq; cases hq; exact hz) k
theorem s_istore_5 {a0 a1 a2 a3 a4 a5 : Option Value} {r : List (Option Value)} {x : Int32} (h : zD M.2.1 pc (.istore 5) 2 pc') (hz : znl a4 = true) (k : zSem d M pc' (a0 :: a1 :: a2 :: a3 :: a4 :: some (.int x) :: r) st S Q) : zSem d M pc (a0 :: a1 :: a2 :: a3 :: a4 :: a5 :: r) (.int x :: st) S Q := s_istoreG h (by simp only [List.length_cons]; first | omega | (show _ < _; simp)) (fun j q e hq => by obtain rfl : j = 4 := (by have e : 5 = j + 1 := e; omega); have hq : some a4 = some q := hq; cases hq; exact hz) k
theorem s_istore_6 {a0 a1 a2 a3 a4 a5 a6 : Option Value} {r : List (Option Value)} {x : Int32} (h : zD M.2.1 pc (.istore 6) 2 pc') (hz : znl a5 = true) (k : zSem d M pc' (a0 :: a1 :: a2 :: a3 :: a4 :: a5 :: some (.int x) :: r) st S Q) : zSem d M pc (a0 :: a1 :: a2 :: a3 :: a4 :: a5 :: a6 :: r) (.int x :: st) S Q := s_istoreG h (by simp only [List.length_cons]; first | omega | (show _ < _; simp)) (fun j q e hq => by obtain rfl : j = 5 := (by have e : 6 = j + 1 := e; omega); have hq : some a5 = some q := hq; cases hq; exact hz) k
theorem s_istore_7 {a0 a1 a2 a3 a4 a5 a6 a7 : Option Value} {r : List (Option Value)} {x : Int32} (h : zD M.2.1 pc (.istore 7) 2 pc') (hz : znl a6 = true) (k : zSem d M pc' (a0 :: a1 :: a2 :: a3 :: a4 :: a5 :: a6 :: some (.int x) :: r) st S Q) : zSem d M pc (a0 :: a1 :: a2 :: a3 :: a4 :: a5 :: a6 :: a7 :: r) (.int x :: st) S Q := s_istoreG h (by simp only [List.length_cons]; first | omega | (show _ < _; simp)) (fun j q e hq => by obtain rfl : j = 6 := (by have e : 7 = j + 1 := e; omega); have hq : some a6 = some q := hq; cases hq; exact hz) k
theorem s_istore_8 {a0 a1 a2 a3 a4 a5 a6 a7 a8 : Option Value} {r : List (Option Value)} {x : Int32} (h : zD M.2.1 pc (.istore 8) 2 pc') (hz : znl a7 = true) (k : zSem d M pc' (a0 :: a1 :: a2 :: a3 :: a4 :: a5 :: a6 :: a7 :: some (.int x) :: r) st S Q) : zSem d M pc (a0 :: a1 :: a2 :: a3 :: a4 :: a5 :: a6 :: a7 :: a8 :: r) (.int x :: st) S Q := s_istoreG h (by simp only [List.length_cons]; first | omega | (show _ < _; simp)) (fun j q e hq => by obtain rfl : j = 7 := (by have e : 8 = j + 1 := e; omega); have hq : some a7 = some q := hq; cases hq; exact hz) k
theorem s_istore_9 {a0 a1 a2 a3 a4 a5 a6 a7 a8 a9 : Option Value} {r : List (Option Value)} {x : Int32} (h : zD M.2.1 pc (.istore 9) 2 pc') (hz : znl a8 = true) (k : zSem d M pc' (a0 :: a1 :: a2 :: a3 :: a4 :: a5 :: a6 :: a7 :: a8 :: some (.int x) :: r) st S Q) : zSem d M pc (a0 :: a1 :: a2 :: a3 :: a4 :: a5 :: a6 :: a7 :: a8 :: a9 :: r) (.int x :: st) S Q := s_istoreG h (by simp only [List.length_cons]; first | omega | (show _ < _; simp)) (fun j q e hq => by obtain rfl : j = 8 := (by have e : 9 = j + 1 := e; omega); have hq : some a8 = some q := hq; cases hq; exact hz) k
theorem s_istore_10 {a0 a1 a2 a3 a4 a5 a6 a7 a8 a9 a10 : Option Value} {r : List (Option Value)} {x : Int32} (h : zD M.2.1 pc (.istore 10) 2 pc') (hz : znl a9 = true) (k : zSem d M pc' (a0 :: a1 :: a2 :: a3 :: a4 :: a5 :: a6 :: a7 :: a8 :: a9 :: some (.int x) :: r) st S Q) : zSem d M pc (a0 :: a1 :: a2 :: a3 :: a4 :: a5 :: a6 :: a7 :: a8 :: a9 :: a10 :: r) (.int x :: st) S Q := s_istoreG h (by simp only [List.length_cons]; first | omega | (show _ < _; simp)) (fun j q e hq => by obtain rfl : j = 9 := (by have e : 10 = j + 1 := e; omega); have hq : some a9 = some q := hq; cases hq; exact hz) k
theorem s_istore_11 {a0 a1 a2 a3 a4 a5 a6 a7 a8 a9 a10 a11 : Option Value} {r : List (Option Value)} {x : Int32} (h : zD M.2.1 pc (.istore 11) 2 pc') (hz : znl a10 = true) (k : zSem d M pc' (a0 :: a1 :: a2 :: a3 :: a4 :: a5 :: a6 :: a7 :: a8 :: a9 :: a10 :: some (.int x) :: r) st S Q) : zSem d M pc (a0 :: a1 :: a2 :: a3 :: a4 :: a5 :: a6 :: a7 :: a8 :: a9 :: a10 :: a11 :: r) (.int x :: st) S Q := s_istoreG h (by simp only [List.length_cons]; first | omega | (show _ < _; simp)) (fun j q e hq => by obtain rfl : j = 10 := (by have e : 11 = j + 1 := e; omega); have hq : some a10 = some q := hq; cases hq; exact hz) k
theorem s_istore_12 {a0 a1 a2 a3 a4 a5 a6 a7 a8 a9 a10 a11 a12 : Option Value} {r : List (Option Value)} {x : Int32} (h : zD M.2.1 pc (.istore 12) 2 pc') (hz : znl a11 = true) (k : zSem d M pc' (a0 :: a1 :: a2 :: a3 :: a4 :: a5 :: a6 :: a7 :: a8 :: a9 :: a10 :: a11 :: some (.int x) :: r) st S Q) : zSem d M pc (a0 :: a1 :: a2 :: a3 :: a4 :: a5 :: a6 :: a7 :: a8 :: a9 :: a10 :: a11 :: a12 :: r) (.int x :: st) S Q := s_istoreG h (by simp only [List.length_cons]; first | omega | (show _ < _; simp)) (fun j q e hq => by obtain rfl : j = 11 := (by have e : 12 = j + 1 := e; omega); have hq : some a11 = some q := hq; cases hq; exact hz) k
theorem s_istore_13 {a0 a1 a2 a3 a4 a5 a6 a7 a8 a9 a10 a11 a12 a13 : Option Value} {r : List (Option Value)} {x : Int32} (h : zD M.2.1 pc (.istore 13) 2 pc') (hz : znl a12 = true) (k : zSem d M pc' (a0 :: a1 :: a2 :: a3 :: a4 :: a5 :: a6 :: a7 :: a8 :: a9 :: a10 :: a11 :: a12 :: some (.int x) :: r) st S Q) : zSem d M pc (a0 :: a1 :: a2 :: a3 :: a4 :: a5 :: a6 :: a7 :: a8 :: a9 :: a10 :: a11 :: a12 :: a13 :: r) (.int x :: st) S Q := s_istoreG h (by simp only [List.length_cons]; first | omega | (show _ < _; simp)) (fun j q e hq => by obtain rfl : j = 12 := (by have e : 13 = j + 1 := e; omega); have hq : some a12 = some q := hq; cases hq; exact hz) k
theorem s_istore_14 {a0 a1 a2 a3 a4 a5 a6 a7 a8 a9 a10 a11 a12 a13 a14 : Option Value} {r : List (Option Value)} {x : Int32} (h : zD M.2.1 pc (.istore 14) 2 pc') (hz : znl a13 = true) (k : zSem d M pc' (a0 :: a1 :: a2 :: a3 :: a4 :: a5 :: a6 :: a7 :: a8 :: a9 :: a10 :: a11 :: a12 :: a13 :: some (.int x) :: r) st S Q) : zSem d M pc (a0 :: a1 :: a2 :: a3 :: a4 :: a5 :: a6 :: a7 :: a8 :: a9 :: a10 :: a11 :: a12 :: a13 :: a14 :: r) (.int x :: st) S Q := s_istoreG h (by simp only [List.length_cons]; first | omega | (show _ < _; simp)) (fun j q e hq => by obtain rfl : j = 13 := (by have e : 14 = j + 1 := e; omega); have hq : some a13 = some q := hq; cases hq; exact hz) k
theorem s_istore_15 {a0 a1 a2 a3 a4 a5 a6 a7 a8 a9 a10 a11 a12 a13 a14 a15 : Option Value} {r : List (Option Value)} {x : Int32} (h : zD M.2.1 pc (.istore 15) 2 pc') (hz : znl a14 = true) (k : zSem d M pc' (a0 :: a1 :: a2 :: a3 :: a4 :: a5 :: a6 :: a7 :: a8 :: a9 :: a10 :: a11 :: a12 :: a13 :: a14 :: some (.int x) :: r) st S Q) : zSem d M pc (a0 :: a1 :: a2 :: a3 :: a4 :: a5 :: a6 :: a7 :: a8 :: a9 :: a10 :: a11 :: a12 :: a13 :: a14 :: a15 :: r) (.int x :: st) S Q := s_istoreG h (by simp only [List.length_cons]; first | omega | (show _ < _; simp)) (fun j q e hq => by obtain rfl : j = 14 := (by have e : 15 = j + 1 := e; omega); have hq : some a14 = some q := hq; cases hq; exact hz) k
theorem s_istore_16 {a0 a1 a2 a3 a4 a5 a6 a7 a8 a9 a10 a11 a12 a13 a14 a15 a16 : Option Value} {r : List (Option Value)} {x : Int32} (h : zD M.2.1 pc (.istore 16) 2 pc') (hz : znl a15 = true) (k : zSem d M pc' (a0 :: a1 :: a2 :: a3 :: a4 :: a5 :: a6 :: a7 :: a8 :: a9 :: a10 :: a11 :: a12 :: a13 :: a14 :: a15 :: some (.int x) :: r) st S Q) : zSem d M pc (a0 :: a1 :: a2 :: a3 :: a4 :: a5 :: a6 :: a7 :: a8 :: a9 :: a10 :: a11 :: a12 :: a13 :: a14 :: a15 :: a16 :: r) (.int x :: st) S Q := s_istoreG h (by simp only [List.length_cons]; first | omega | (show _ < _; simp)) (fun j q e hq => by obtain rfl : j = 15 := (by have e : 16 = j + 1 := e; omega); have hq : some a15 = some q := hq; cases hq; exact hz) k
theorem s_astore_0 {a0 : Option Value} {r : List (Option Value)} {x : Nat} (h : zD M.2.1 pc (.astore_n 0) 1 pc') (k : zSem d M pc' (some (.ref x) :: r) st S Q) : zSem d M pc (a0 :: r) (.ref x :: st) S Q := s_astore_nG h (by simp only [List.length_cons]; first | omega | (show _ < _; simp)) (fun j q e => absurd e (Nat.succ_ne_zero j).symm) k
theorem s_astore_1 {a0 a1 : Option Value} {r : List (Option Value)} {x : Nat} (h : zD M.2.1 pc (.astore_n 1) 1 pc') (hz : znl a0 = true) (k : zSem d M pc' (a0 :: some (.ref x) :: r) st S Q) : zSem d M pc (a0 :: a1 :: r) (.ref x :: st) S Q := s_astore_nG h (by simp only [List.length_cons]; first | omega | (show _ < _; simp)) (fun j q e hq => by obtain rfl : j = 0 := (by have e : 1 = j + 1 := e; omega); have hq : some a0 = some q := hq; cases hq; exact hz) k
theorem s_astore_2 {a0 a1 a2 : Option Value} {r : List (Option Value)} {x : Nat} (h : zD M.2.1 pc (.astore_n 2) 1 pc') (hz : znl a1 = true) (k : zSem d M pc' (a0 :: a1 :: some (.ref x) :: r) st S Q) : zSem d M pc (a0 :: a1 :: a2 :: r) (.ref x :: st) S Q := s_astore_nG h (by simp only [List.length_cons]; first | omega | (show _ < _; simp)) (fun j q e hq => by obtain rfl : j = 1 := (by have e : 2 = j + 1 := e; omega); have hq : some a1 = some q := hq; cases hq; exact hz) k
theorem s_astore_3 {a0 a1 a2 a3 : Option Value} {r : List (Option Value)} {x : Nat} (h : zD M.2.1 pc (.astore_n 3) 1 pc') (hz : znl a2 = true) (k : zSem d M pc' (a0 :: a1 :: a2 :: some (.ref x) :: r) st S Q) : zSem d M pc (a0 :: a1 :: a2 :: a3 :: r) (.ref x :: st) S Q := s_astore_nG h (by simp only [List.length_cons]; first | omega | (show _ < _; simp)) (fun j q e hq => by obtain rfl : j = 2 := (by have e : 3 = j + 1 := e; omega); have hq : some a2 = some q := hq; cases hq; exact hz) k
theorem s_lstore_0 {a0 a1 : Option Value} {r : List (Option Value)} {x : Int64} (h : zD M.2.1 pc (.lstore_n 0) 1 pc') (k : zSem d M pc' (some (.long x) :: none :: r) st S Q) : zSem d M pc (a0 :: a1 :: r) (.long x :: st) S Q := s_lstore_nG h (by simp only [List.length_cons]; first | omega | (show _ < _; simp)) (fun j q e => absurd e (Nat.succ_ne_zero j).symm) k
theorem s_lstore_1 {a0 a1 a2 : Option Value} {r : List (Option Value)} {x : Int64} (h : zD M.2.1 pc (.lstore_n 1) 1 pc') (hz : znl a0 = true) (k : zSem d M pc' (a0 :: some (.long x) :: none :: r) st S Q) : zSem d M pc (a0 :: a1 :: a2 :: r) (.long x :: st) S Q := s_lstore_nG h (by simp only [List.length_cons]; first | omega | (show _ < _; simp)) (fun j q e hq => by obtain rfl : j = 0 := (by have e : 1 = j + 1 := e; omega); have hq : some a0 = some q := hq; cases hq; exact hz) k
theorem s_lstore_2 {a0 a1 a2 a3 : Option Value} {r : List (Option Value)} {x : Int64} (h : zD M.2.1 pc (.lstore_n 2) 1 pc') (hz : znl a1 = true) (k : zSem d M pc' (a0 :: a1 :: some (.long x) :: none :: r) st S Q) : zSem d M pc (a0 :: a1 :: a2 :: a3 :: r) (.long x :: st) S Q := s_lstore_nG h (by simp only [List.length_cons]; first | omega | (show _ < _; simp)) (fun j q e hq => by obtain rfl : j = 1 := (by have e : 2 = j + 1 := e; omega); have hq : some a1 = some q := hq; cases hq; exact hz) k
theorem s_lstore_3 {a0 a1 a2 a3 a4 : Option Value} {r : List (Option Value)} {x : Int64} (h : zD M.2.1 pc (.lstore_n 3) 1 pc') (hz : znl a2 = true) (k : zSem d M pc' (a0 :: a1 :: a2 :: some (.long x) :: none :: r) st S Q) : zSem d M pc (a0 :: a1 :: a2 :: a3 :: a4 :: r) (.long x :: st) S Q := s_lstore_nG h (by simp only [List.length_cons]; first | omega | (show _ < _; simp)) (fun j q e hq => by obtain rfl : j = 2 := (by have e : 3 = j + 1 := e; omega); have hq : some a2 = some q := hq; cases hq; exact hz) k
theorem s_lstore_4 {a0 a1 a2 a3 a4 a5 : Option Value} {r : List (Option Value)} {x : Int64} (h : zD M.2.1 pc (.lstore 4) 2 pc') (hz : znl a3 = true) (k : zSem d M pc' (a0 :: a1 :: a2 :: a3 :: some (.long x) :: none :: r) st S Q) : zSem d M pc (a0 :: a1 :: a2 :: a3 :: a4 :: a5 :: r) (.long x :: st) S Q := s_lstoreG h (by simp only [List.length_cons]; first | omega | (show _ < _; simp)) (fun j q e hq => by obtain rfl : j = 3 := (by have e : 4 = j + 1 := e; omega); have hq : some a3 = some q := hq; cases hq; exact hz) k
theorem s_lstore_5 {a0 a1 a2 a3 a4 a5 a6 : Option Value} {r : List (Option Value)} {x : Int64} (h : zD M.2.1 pc (.lstore 5) 2 pc') (hz : znl a4 = true) (k : zSem d M pc' (a0 :: a1 :: a2 :: a3 :: a4 :: some (.long x) :: none :: r) st S Q) : zSem d M pc (a0 :: a1 :: a2 :: a3 :: a4 :: a5 :: a6 :: r) (.long x :: st) S Q := s_lstoreG h (by simp only [List.length_cons]; first | omega | (show _ < _; simp)) (fun j q e hq => by obtain rfl : j = 4 := (by have e : 5 = j + 1 := e; omega); have hq : some a4 = some q := hq; cases hq; exact hz) k
theorem s_lstore_6 {a0 a1 a2 a3 a4 a5 a6 a7 : Option Value} {r : List (Option Value)} {x : Int64} (h : zD M.2.1 pc (.lstore 6) 2 pc') (hz : znl a5 = true) (k : zSem d M pc' (a0 :: a1 :: a2 :: a3 :: a4 :: a5 :: some (.long x) :: none :: r) st S Q) : zSem d M pc (a0 :: a1 :: a2 :: a3 :: a4 :: a5 :: a6 :: a7 :: r) (.long x :: st) S Q := s_lstoreG h (by simp only [List.length_cons]; first | omega | (show _ < _; simp)) (fun j q e hq => by obtain rfl : j = 5 := (by have e : 6 = j + 1 := e; omega); have hq : some a5 = some q := hq; cases hq; exact hz) k
theorem s_lstore_7 {a0 a1 a2 a3 a4 a5 a6 a7 a8 : Option Value} {r : List (Option Value)} {x : Int64} (h : zD M.2.1 pc (.lstore 7) 2 pc') (hz : znl a6 = true) (k : zSem d M pc' (a0 :: a1 :: a2 :: a3 :: a4 :: a5 :: a6 :: some (.long x) :: none :: r) st S Q) : zSem d M pc (a0 :: a1 :: a2 :: a3 :: a4 :: a5 :: a6 :: a7 :: a8 :: r) (.long x :: st) S Q := s_lstoreG h (by simp only [List.length_cons]; first | omega | (show _ < _; simp)) (fun j q e hq => by obtain rfl : j = 6 := (by have e : 7 = j + 1 := e; omega); have hq : some a6 = some q := hq; cases hq; exact hz) k
theorem s_lstore_8 {a0 a1 a2 a3 a4 a5 a6 a7 a8 a9 : Option Value} {r : List (Option Value)} {x : Int64} (h : zD M.2.1 pc (.lstore 8) 2 pc') (hz : znl a7 = true) (k : zSem d M pc' (a0 :: a1 :: a2 :: a3 :: a4 :: a5 :: a6 :: a7 :: some (.long x) :: none :: r) st S Q) : zSem d M pc (a0 :: a1 :: a2 :: a3 :: a4 :: a5 :: a6 :: a7 :: a8 :: a9 :: r) (.long x :: st) S Q := s_lstoreG h (by simp only [List.length_cons]; first | omega | (show _ < _; simp)) (fun j q e hq => by obtain rfl : j = 7 := (by have e : 8 = j + 1 := e; omega); have hq : some a7 = some q := hq; cases hq; exact hz) k
theorem s_lstore_9 {a0 a1 a2 a3 a4 a5 a6 a7 a8 a9 a10 : Option Value} {r : List (Option Value)} {x : Int64} (h : zD M.2.1 pc (.lstore 9) 2 pc') (hz : znl a8 = true) (k : zSem d M pc' (a0 :: a1 :: a2 :: a3 :: a4 :: a5 :: a6 :: a7 :: a8 :: some (.long x) :: none :: r) st S Q) : zSem d M pc (a0 :: a1 :: a2 :: a3 :: a4 :: a5 :: a6 :: a7 :: a8 :: a9 :: a10 :: r) (.long x :: st) S Q := s_lstoreG h (by simp only [List.length_cons]; first | omega | (show _ < _; simp)) (fun j q e hq => by obtain rfl : j = 8 := (by have e : 9 = j + 1 := e; omega); have hq : some a8 = some q := hq; cases hq; exact hz) k
theorem s_lstore_10 {a0 a1 a2 a3 a4 a5 a6 a7 a8 a9 a10 a11 : Option Value} {r : List (Option Value)} {x : Int64} (h : zD M.2.1 pc (.lstore 10) 2 pc') (hz : znl a9 = true) (k : zSem d M pc' (a0 :: a1 :: a2 :: a3 :: a4 :: a5 :: a6 :: a7 :: a8 :: a9 :: some (.long x) :: none :: r) st S Q) : zSem d M pc (a0 :: a1 :: a2 :: a3 :: a4 :: a5 :: a6 :: a7 :: a8 :: a9 :: a10 :: a11 :: r) (.long x :: st) S Q := s_lstoreG h (by simp only [List.length_cons]; first | omega | (show _ < _; simp)) (fun j q e hq => by obtain rfl : j = 9 := (by have e : 10 = j + 1 := e; omega); have hq : some a9 = some q := hq; cases hq; exact hz) k
theorem s_lstore_11 {a0 a1 a2 a3 a4 a5 a6 a7 a8 a9 a10 a11 a12 : Option Value} {r : List (Option Value)} {x : Int64} (h : zD M.2.1 pc (.lstore 11) 2 pc') (hz : znl a10 = true) (k : zSem d M pc' (a0 :: a1 :: a2 :: a3 :: a4 :: a5 :: a6 :: a7 :: a8 :: a9 :: a10 :: some (.long x) :: none :: r) st S Q) : zSem d M pc (a0 :: a1 :: a2 :: a3 :: a4 :: a5 :: a6 :: a7 :: a8 :: a9 :: a10 :: a11 :: a12 :: r) (.long x :: st) S Q := s_lstoreG h (by simp only [List.length_cons]; first | omega | (show _ < _; simp)) (fun j q e hq => by obtain rfl : j = 10 := (by have e : 11 = j + 1 := e; omega); have hq : some a10 = some q := hq; cases hq; exact hz) k
theorem s_lstore_12 {a0 a1 a2 a3 a4 a5 a6 a7 a8 a9 a10 a11 a12 a13 : Option Value} {r : List (Option Value)} {x : Int64} (h : zD M.2.1 pc (.lstore 12) 2 pc') (hz : znl a11 = true) (k : zSem d M pc' (a0 :: a1 :: a2 :: a3 :: a4 :: a5 :: a6 :: a7 :: a8 :: a9 :: a10 :: a11 :: some (.long x) :: none :: r) st S Q) : zSem d M pc (a0 :: a1 :: a2 :: a3 :: a4 :: a5 :: a6 :: a7 :: a8 :: a9 :: a10 :: a11 :: a12 :: a13 :: r) (.long x :: st) S Q := s_lstoreG h (by simp only [List.length_cons]; first | omega | (show _ < _; simp)) (fun j q e hq => by obtain rfl : j = 11 := (by have e : 12 = j + 1 := e; omega); have hq : some a11 = some q := hq; cases hq; exact hz) k
theorem s_lstore_13 {a0 a1 a2 a3 a4 a5 a6 a7 a8 a9 a10 a11 a12 a13 a14 : Option Value} {r : List (Option Value)} {x : Int64} (h : zD M.2.1 pc (.lstore 13) 2 pc') (hz : znl a12 = true) (k : zSem d M pc' (a0 :: a1 :: a2 :: a3 :: a4 :: a5 :: a6 :: a7 :: a8 :: a9 :: a10 :: a11 :: a12 :: some (.long x) :: none :: r) st S Q) : zSem d M pc (a0 :: a1 :: a2 :: a3 :: a4 :: a5 :: a6 :: a7 :: a8 :: a9 :: a10 :: a11 :: a12 :: a13 :: a14 :: r) (.long x :: st) S Q := s_lstoreG h (by simp only [List.length_cons]; first | omega | (show _ < _; simp)) (fun j q e hq => by obtain rfl : j = 12 := (by have e : 13 = j + 1 := e; omega); have hq : some a12 = some q := hq; cases hq; exact hz) k
theorem s_lstore_14 {a0 a1 a2 a3 a4 a5 a6 a7 a8 a9 a10 a11 a12 a13 a14 a15 : Option Value} {r : List (Option Value)} {x : Int64} (h : zD M.2.1 pc (.lstore 14) 2 pc') (hz : znl a13 = true) (k : zSem d M pc' (a0 :: a1 :: a2 :: a3 :: a4 :: a5 :: a6 :: a7 :: a8 :: a9 :: a10 :: a11 :: a12 :: a13 :: some (.long x) :: none :: r) st S Q) : zSem d M pc (a0 :: a1 :: a2 :: a3 :: a4 :: a5 :: a6 :: a7 :: a8 :: a9 :: a10 :: a11 :: a12 :: a13 :: a14 :: a15 :: r) (.long x :: st) S Q := s_lstoreG h (by simp only [List.length_cons]; first | omega | (show _ < _; simp)) (fun j q e hq => by obtain rfl : j = 13 := (by have e : 14 = j + 1 := e; omega); have hq : some a13 = some q := hq; cases hq; exact hz) k
theorem s_lstore_15 {a0 a1 a2 a3 a4 a5 a6 a7 a8 a9 a10 a11 a12 a13 a14 a15 a16 : Option Value} {r : List (Option Value)} {x : Int64} (h : zD M.2.1 pc (.lstore 15) 2 pc') (hz : znl a14 = true) (k : zSem d M pc' (a0 :: a1 :: a2 :: a3 :: a4 :: a5 :: a6 :: a7 :: a8 :: a9 :: a10 :: a11 :: a12 :: a13 :: a14 :: some (.long x) :: none :: r) st S Q) : zSem d M pc (a0 :: a1 :: a2 :: a3 :: a4 :: a5 :: a6 :: a7 :: a8 :: a9 :: a10 :: a11 :: a12 :: a13 :: a14 :: a15 :: a16 :: r) (.long x :: st) S Q := s_lstoreG h (by simp only [List.length_cons]; first | omega | (show _ < _; simp)) (fun j q e hq => by obtain rfl : j = 14 := (by have e : 15 = j + 1 := e; omega); have hq : some a14 = some q := hq; cases hq; exact hz) k
theorem s_lstore_16 {a0 a1 a2 a3 a4 a5 a6 a7 a8 a9 a10 a11 a12 a13 a14 a15 a16 a17 : Option Value} {r : List (Option Value)} {x : Int64} (h : zD M.2.1 pc (.lstore 16) 2 pc') (hz : znl a15 = true) (k : zSem d M pc' (a0 :: a1 :: a2 :: a3 :: a4 :: a5 :: a6 :: a7 :: a8 :: a9 :: a10 :: a11 :: a12 :: a13 :: a14 :: a15 :: some (.long x) :: none :: r) st S Q) : zSem d M pc (a0 :: a1 :: a2 :: a3 :: a4 :: a5 :: a6 :: a7 :: a8 :: a9 :: a10 :: a11 :: a12 :: a13 :: a14 :: a15 :: a16 :: a17 :: r) (.long x :: st) S Q := s_lstoreG h (by simp only [List.length_cons]; first | omega | (show _ < _; simp)) (fun j q e hq => by obtain rfl : j = 15 := (by have e : 16 = j + 1 := e; omega); have hq : some a15 = some q := hq; cases hq; exact hz) k
theorem s_iincG {i : Nat} {n : Int} {x v : Int32} (h : zD M.2.1 pc (.iinc i n) 3 pc') (hx : ls[i]? = some (some (.int x))) (hv : x + Int32.ofInt n = v) (hp : ∀ (j : Nat) (q : Option Value), i = j + 1 → ls[j]? = some q → znl q = true) (k : zSem d M pc' (ls.set i (some (.int v))) st S Q) : zSem d M pc ls st S Q := by
  intro p l e R s m args below meth c D ad cA H locs ls' C hP hS hl
  obtain ⟨h1, rfl⟩ := h
  obtain ⟨kk, hkk⟩ := List.getElem?_of_mem ((zprs_mem ad ls 0 (i, .int x)).mpr ⟨i, .int x, hx, by simp [cv]⟩)
  exact lv_iinc C.1 C.2.1 h1 hl.1 hkk hv (by rw [← hl.2]; exact (List.getElem?_eq_some_iff.mp hx).1) rfl (fun l2 h2 => k p l e R s m args below meth c D ad cA H locs l2 C hP hS (hl.set1 (v := .int v) hp h2))
theorem s_iinc_0 {r : List (Option Value)} {x v : Int32} {n : Int} (h : zD M.2.1 pc (.iinc 0 n) 3 pc') (hv : x + Int32.ofInt n = v) (k : zSem d M pc' (some (.int v) :: r) st S Q) : zSem d M pc (some (.int x) :: r) st S Q := s_iincG h rfl hv (fun j q e => absurd e (Nat.succ_ne_zero j).symm) k
theorem s_iinc_1 {a0 : Option Value} {r : List (Option Value)} {x v : Int32} {n : Int} (h : zD M.2.1 pc (.iinc 1 n) 3 pc') (hz : znl a0 = true) (hv : x + Int32.ofInt n = v) (k : zSem d M pc' (a0 :: some (.int v) :: r) st S Q) : zSem d M pc (a0 :: some (.int x) :: r) st S Q := s_iincG h rfl hv (fun j q e hq => by obtain rfl : j = 0 := (by have e : 1 = j + 1 := e; omega); have hq : some a0 = some q := hq; cases hq; exact hz) k
theorem s_iinc_2 {a0 a1 : Option Value} {r : List (Option Value)} {x v : Int32} {n : Int} (h : zD M.2.1 pc (.iinc 2 n) 3 pc') (hz : znl a1 = true) (hv : x + Int32.ofInt n = v) (k : zSem d M pc' (a0 :: a1 :: some (.int v) :: r) st S Q) : zSem d M pc (a0 :: a1 :: some (.int x) :: r) st S Q := s_iincG h rfl hv (fun j q e hq => by obtain rfl : j = 1 := (by have e : 2 = j + 1 := e; omega); have hq : some a1 = some q := hq; cases hq; exact hz) k
theorem s_iinc_3 {a0 a1 a2 : Option Value} {r : List (Option Value)} {x v : Int32} {n : Int} (h : zD M.2.1 pc (.iinc 3 n) 3 pc') (hz : znl a2 = true) (hv : x + Int32.ofInt n = v) (k : zSem d M pc' (a0 :: a1 :: a2 :: some (.int v) :: r) st S Q) : zSem d M pc (a0 :: a1 :: a2 :: some (.int x) :: r) st S Q := s_iincG h rfl hv (fun j q e hq => by obtain rfl : j = 2 := (by have e : 3 = j + 1 := e; omega); have hq : some a2 = some q := hq; cases hq; exact hz) k
theorem s_iinc_4 {a0 a1 a2 a3 : Option Value} {r : List (Option Value)} {x v : Int32} {n : Int} (h : zD M.2.1 pc (.iinc 4 n) 3 pc') (hz : znl a3 = true) (hv : x + Int32.ofInt n = v) (k : zSem d M pc' (a0 :: a1 :: a2 :: a3 :: some (.int v) :: r) st S Q) : zSem d M pc (a0 :: a1 :: a2 :: a3 :: some (.int x) :: r) st S Q := s_iincG h rfl hv (fun j q e hq => by obtain rfl : j = 3 := (by have e : 4 = j + 1 := e; omega); have hq : some a3 = some q := hq; cases hq; exact hz) k
theorem s_iinc_5 {a0 a1 a2 a3 a4 : Option Value} {r : List (Option Value)} {x v : Int32} {n : Int} (h : zD M.2.1 pc (.iinc 5 n) 3 pc') (hz : znl a4 = true) (hv : x + Int32.ofInt n = v) (k : zSem d M pc' (a0 :: a1 :: a2 :: a3 :: a4 :: some (.int v) :: r) st S Q) : zSem d M pc (a0 :: a1 :: a2 :: a3 :: a4 :: some (.int x) :: r) st S Q := s_iincG h rfl hv (fun j q e hq => by obtain rfl : j = 4 := (by have e : 5 = j + 1 := e; omega); have hq : some a4 = some q := hq; cases hq; exact hz) k
theorem s_iinc_6 {a0 a1 a2 a3 a4 a5 : Option Value} {r : List (Option Value)} {x v : Int32} {n : Int} (h : zD M.2.1 pc (.iinc 6 n) 3 pc') (hz : znl a5 = true) (hv : x + Int32.ofInt n = v) (k : zSem d M pc' (a0 :: a1 :: a2 :: a3 :: a4 :: a5 :: some (.int v) :: r) st S Q) : zSem d M pc (a0 :: a1 :: a2 :: a3 :: a4 :: a5 :: some (.int x) :: r) st S Q := s_iincG h rfl hv (fun j q e hq => by obtain rfl : j = 5 := (by have e : 6 = j + 1 := e; omega); have hq : some a5 = some q := hq; cases hq; exact hz) k
theorem s_iinc_7 {a0 a1 a2 a3 a4 a5 a6 : Option Value} {r : List (Option Value)} {x v : Int32} {n : Int} (h : zD M.2.1 pc (.iinc 7 n) 3 pc') (hz : znl a6 = true) (hv : x + Int32.ofInt n = v) (k : zSem d M pc' (a0 :: a1 :: a2 :: a3 :: a4 :: a5 :: a6 :: some (.int v) :: r) st S Q) : zSem d M pc (a0 :: a1 :: a2 :: a3 :: a4 :: a5 :: a6 :: some (.int x) :: r) st S Q := s_iincG h rfl hv (fun j q e hq => by obtain rfl : j = 6 := (by have e : 7 = j + 1 := e; omega); have hq : some a6 = some q := hq; cases hq; exact hz) k
theorem s_iinc_8 {a0 a1 a2 a3 a4 a5 a6 a7 : Option Value} {r : List (Option Value)} {x v : Int32} {n : Int} (h : zD M.2.1 pc (.iinc 8 n) 3 pc') (hz : znl a7 = true) (hv : x + Int32.ofInt n = v) (k : zSem d M pc' (a0 :: a1 :: a2 :: a3 :: a4 :: a5 :: a6 :: a7 :: some (.int v) :: r) st S Q) : zSem d M pc (a0 :: a1 :: a2 :: a3 :: a4 :: a5 :: a6 :: a7 :: some (.int x) :: r) st S Q := s_iincG h rfl hv (fun j q e hq => by obtain rfl : j = 7 := (by have e : 8 = j + 1 := e; omega); have hq : some a7 = some q := hq; cases hq; exact hz) k
theorem s_iinc_9 {a0 a1 a2 a3 a4 a5 a6 a7 a8 : Option Value} {r : List (Option Value)} {x v : Int32} {n : Int} (h : zD M.2.1 pc (.iinc 9 n) 3 pc') (hz : znl a8 = true) (hv : x + Int32.ofInt n = v) (k : zSem d M pc' (a0 :: a1 :: a2 :: a3 :: a4 :: a5 :: a6 :: a7 :: a8 :: some (.int v) :: r) st S Q) : zSem d M pc (a0 :: a1 :: a2 :: a3 :: a4 :: a5 :: a6 :: a7 :: a8 :: some (.int x) :: r) st S Q := s_iincG h rfl hv (fun j q e hq => by obtain rfl : j = 8 := (by have e : 9 = j + 1 := e; omega); have hq : some a8 = some q := hq; cases hq; exact hz) k
theorem s_iinc_10 {a0 a1 a2 a3 a4 a5 a6 a7 a8 a9 : Option Value} {r : List (Option Value)} {x v : Int32} {n : Int} (h : zD M.2.1 pc (.iinc 10 n) 3 pc') (hz : znl a9 = true) (hv : x + Int32.ofInt n = v) (k : zSem d M pc' (a0 :: a1 :: a2 :: a3 :: a4 :: a5 :: a6 :: a7 :: a8 :: a9 :: some (.int v) :: r) st S Q) : zSem d M pc (a0 :: a1 :: a2 :: a3 :: a4 :: a5 :: a6 :: a7 :: a8 :: a9 :: some (.int x) :: r) st S Q := s_iincG h rfl hv (fun j q e hq => by obtain rfl : j = 9 := (by have e : 10 = j + 1 := e; omega); have hq : some a9 = some q := hq; cases hq; exact hz) k
theorem s_iinc_11 {a0 a1 a2 a3 a4 a5 a6 a7 a8 a9 a10 : Option Value} {r : List (Option Value)} {x v : Int32} {n : Int} (h : zD M.2.1 pc (.iinc 11 n) 3 pc') (hz : znl a10 = true) (hv : x + Int32.ofInt n = v) (k : zSem d M pc' (a0 :: a1 :: a2 :: a3 :: a4 :: a5 :: a6 :: a7 :: a8 :: a9 :: a10 :: some (.int v) :: r) st S Q) : zSem d M pc (a0 :: a1 :: a2 :: a3 :: a4 :: a5 :: a6 :: a7 :: a8 :: a9 :: a10 :: some (.int x) :: r) st S Q := s_iincG h rfl hv (fun j q e hq => by obtain rfl : j = 10 := (by have e : 11 = j + 1 := e; omega); have hq : some a10 = some q := hq; cases hq; exact hz) k
theorem s_iinc_12 {a0 a1 a2 a3 a4 a5 a6 a7 a8 a9 a10 a11 : Option Value} {r : List (Option Value)} {x v : Int32} {n : Int} (h : zD M.2.1 pc (.iinc 12 n) 3 pc') (hz : znl a11 = true) (hv : x + Int32.ofInt n = v) (k : zSem d M pc' (a0 :: a1 :: a2 :: a3 :: a4 :: a5 :: a6 :: a7 :: a8 :: a9 :: a10 :: a11 :: some (.int v) :: r) st S Q) : zSem d M pc (a0 :: a1 :: a2 :: a3 :: a4 :: a5 :: a6 :: a7 :: a8 :: a9 :: a10 :: a11 :: some (.int x) :: r) st S Q := s_iincG h rfl hv (fun j q e hq => by obtain rfl : j = 11 := (by have e : 12 = j + 1 := e; omega); have hq : some a11 = some q := hq; cases hq; exact hz) k
theorem s_iinc_13 {a0 a1 a2 a3 a4 a5 a6 a7 a8 a9 a10 a11 a12 : Option Value} {r : List (Option Value)} {x v : Int32} {n : Int} (h : zD M.2.1 pc (.iinc 13 n) 3 pc') (hz : znl a12 = true) (hv : x + Int32.ofInt n = v) (k : zSem d M pc' (a0 :: a1 :: a2 :: a3 :: a4 :: a5 :: a6 :: a7 :: a8 :: a9 :: a10 :: a11 :: a12 :: some (.int v) :: r) st S Q) : zSem d M pc (a0 :: a1 :: a2 :: a3 :: a4 :: a5 :: a6 :: a7 :: a8 :: a9 :: a10 :: a11 :: a12 :: some (.int x) :: r) st S Q := s_iincG h rfl hv (fun j q e hq => by obtain rfl : j = 12 := (by have e : 13 = j + 1 := e; omega); have hq : some a12 = some q := hq; cases hq; exact hz) k
theorem s_iinc_14 {a0 a1 a2 a3 a4 a5 a6 a7 a8 a9 a10 a11 a12 a13 : Option Value} {r : List (Option Value)} {x v : Int32} {n : Int} (h : zD M.2.1 pc (.iinc 14 n) 3 pc') (hz : znl a13 = true) (hv : x + Int32.ofInt n = v) (k : zSem d M pc' (a0 :: a1 :: a2 :: a3 :: a4 :: a5 :: a6 :: a7 :: a8 :: a9 :: a10 :: a11 :: a12 :: a13 :: some (.int v) :: r) st S Q) : zSem d M pc (a0 :: a1 :: a2 :: a3 :: a4 :: a5 :: a6 :: a7 :: a8 :: a9 :: a10 :: a11 :: a12 :: a13 :: some (.int x) :: r) st S Q := s_iincG h rfl hv (fun j q e hq => by obtain rfl : j = 13 := (by have e : 14 = j + 1 := e; omega); have hq : some a13 = some q := hq; cases hq; exact hz) k
theorem s_iinc_15 {a0 a1 a2 a3 a4 a5 a6 a7 a8 a9 a10 a11 a12 a13 a14 : Option Value} {r : List (Option Value)} {x v : Int32} {n : Int} (h : zD M.2.1 pc (.iinc 15 n) 3 pc') (hz : znl a14 = true) (hv : x + Int32.ofInt n = v) (k : zSem d M pc' (a0 :: a1 :: a2 :: a3 :: a4 :: a5 :: a6 :: a7 :: a8 :: a9 :: a10 :: a11 :: a12 :: a13 :: a14 :: some (.int v) :: r) st S Q) : zSem d M pc (a0 :: a1 :: a2 :: a3 :: a4 :: a5 :: a6 :: a7 :: a8 :: a9 :: a10 :: a11 :: a12 :: a13 :: a14 :: some (.int x) :: r) st S Q := s_iincG h rfl hv (fun j q e hq => by obtain rfl : j = 14 := (by have e : 15 = j + 1 := e; omega); have hq : some a14 = some q := hq; cases hq; exact hz) k
theorem s_iinc_16 {a0 a1 a2 a3 a4 a5 a6 a7 a8 a9 a10 a11 a12 a13 a14 a15 : Option Value} {r : List (Option Value)} {x v : Int32} {n : Int} (h : zD M.2.1 pc (.iinc 16 n) 3 pc') (hz : znl a15 = true) (hv : x + Int32.ofInt n = v) (k : zSem d M pc' (a0 :: a1 :: a2 :: a3 :: a4 :: a5 :: a6 :: a7 :: a8 :: a9 :: a10 :: a11 :: a12 :: a13 :: a14 :: a15 :: some (.int v) :: r) st S Q) : zSem d M pc (a0 :: a1 :: a2 :: a3 :: a4 :: a5 :: a6 :: a7 :: a8 :: a9 :: a10 :: a11 :: a12 :: a13 :: a14 :: a15 :: some (.int x) :: r) st S Q := s_iincG h rfl hv (fun j q e hq => by obtain rfl : j = 15 := (by have e : 16 = j + 1 := e; omega); have hq : some a15 = some q := hq; cases hq; exact hz) k
theorem s_if_eq {x : Int32} {tgt : Nat} (h : zJ M.2.1 pc (fun o => .ifCond .eq o) tgt pc') (kt : x = 0 → zSem d M tgt ls st S Q) (kf : ¬ x = 0 → zSem d M pc' ls st S Q) : zSem d M pc ls (.int x :: st) S Q := by
  intro p l e R s m args below meth c D ad cA H locs ls' C hP hS hl
  obtain ⟨off, h1, h2, rfl⟩ := h
  exact lv_if_eq C.1 C.2.1 h1 h2 (fun q => kt q p l e R s m args below meth c D ad cA H locs ls' C hP hS hl) (fun q => kf q p l e R s m args below meth c D ad cA H locs ls' C hP hS hl)
theorem s_icmp_eq {x y : Int32} {tgt : Nat} (h : zJ M.2.1 pc (fun o => .if_icmp .eq o) tgt pc') (kt : x = y → zSem d M tgt ls st S Q) (kf : ¬ x = y → zSem d M pc' ls st S Q) : zSem d M pc ls (.int y :: .int x :: st) S Q := by
  intro p l e R s m args below meth c D ad cA H locs ls' C hP hS hl
  obtain ⟨off, h1, h2, rfl⟩ := h
  exact lv_icmp_eq C.1 C.2.1 h1 h2 (fun q => kt q p l e R s m args below meth c D ad cA H locs ls' C hP hS hl) (fun q => kf q p l e R s m args below meth c D ad cA H locs ls' C hP hS hl)
theorem s_if_ne {x : Int32} {tgt : Nat} (h : zJ M.2.1 pc (fun o => .ifCond .ne o) tgt pc') (kt : ¬ x = 0 → zSem d M tgt ls st S Q) (kf : x = 0 → zSem d M pc' ls st S Q) : zSem d M pc ls (.int x :: st) S Q := by
  intro p l e R s m args below meth c D ad cA H locs ls' C hP hS hl
  obtain ⟨off, h1, h2, rfl⟩ := h
  exact lv_if_ne C.1 C.2.1 h1 h2 (fun q => kt q p l e R s m args below meth c D ad cA H locs ls' C hP hS hl) (fun q => kf q p l e R s m args below meth c D ad cA H locs ls' C hP hS hl)
theorem s_icmp_ne {x y : Int32} {tgt : Nat} (h : zJ M.2.1 pc (fun o => .if_icmp .ne o) tgt pc') (kt : ¬ x = y → zSem d M tgt ls st S Q) (kf : x = y → zSem d M pc' ls st S Q) : zSem d M pc ls (.int y :: .int x :: st) S Q := by
  intro p l e R s m args below meth c D ad cA H locs ls' C hP hS hl
  obtain ⟨off, h1, h2, rfl⟩ := h
  exact lv_icmp_ne C.1 C.2.1 h1 h2 (fun q => kt q p l e R s m args below meth c D ad cA H locs ls' C hP hS hl) (fun q => kf q p l e R s m args below meth c D ad cA H locs ls' C hP hS hl)
theorem s_if_lt {x : Int32} {tgt : Nat} (h : zJ M.2.1 pc (fun o => .ifCond .lt o) tgt pc') (kt : x < 0 → zSem d M tgt ls st S Q) (kf : ¬ x < 0 → zSem d M pc' ls st S Q) : zSem d M pc ls (.int x :: st) S Q := by
  intro p l e R s m args below meth c D ad cA H locs ls' C hP hS hl
  obtain ⟨off, h1, h2, rfl⟩ := h
  exact lv_if_lt C.1 C.2.1 h1 h2 (fun q => kt q p l e R s m args below meth c D ad cA H locs ls' C hP hS hl) (fun q => kf q p l e R s m args below meth c D ad cA H locs ls' C hP hS hl)
theorem s_icmp_lt {x y : Int32} {tgt : Nat} (h : zJ M.2.1 pc (fun o => .if_icmp .lt o) tgt pc') (kt : x < y → zSem d M tgt ls st S Q) (kf : ¬ x < y → zSem d M pc' ls st S Q) : zSem d M pc ls (.int y :: .int x :: st) S Q := by
  intro p l e R s m args below meth c D ad cA H locs ls' C hP hS hl
  obtain ⟨off, h1, h2, rfl⟩ := h
  exact lv_icmp_lt C.1 C.2.1 h1 h2 (fun q => kt q p l e R s m args below meth c D ad cA H locs ls' C hP hS hl) (fun q => kf q p l e R s m args below meth c D ad cA H locs ls' C hP hS hl)
theorem s_if_ge {x : Int32} {tgt : Nat} (h : zJ M.2.1 pc (fun o => .ifCond .ge o) tgt pc') (kt : 0 ≤ x → zSem d M tgt ls st S Q) (kf : ¬ 0 ≤ x → zSem d M pc' ls st S Q) : zSem d M pc ls (.int x :: st) S Q := by
  intro p l e R s m args below meth c D ad cA H locs ls' C hP hS hl
  obtain ⟨off, h1, h2, rfl⟩ := h
  exact lv_if_ge C.1 C.2.1 h1 h2 (fun q => kt q p l e R s m args below meth c D ad cA H locs ls' C hP hS hl) (fun q => kf q p l e R s m args below meth c D ad cA H locs ls' C hP hS hl)
theorem s_icmp_ge {x y : Int32} {tgt : Nat} (h : zJ M.2.1 pc (fun o => .if_icmp .ge o) tgt pc') (kt : y ≤ x → zSem d M tgt ls st S Q) (kf : ¬ y ≤ x → zSem d M pc' ls st S Q) : zSem d M pc ls (.int y :: .int x :: st) S Q := by
  intro p l e R s m args below meth c D ad cA H locs ls' C hP hS hl
  obtain ⟨off, h1, h2, rfl⟩ := h
  exact lv_icmp_ge C.1 C.2.1 h1 h2 (fun q => kt q p l e R s m args below meth c D ad cA H locs ls' C hP hS hl) (fun q => kf q p l e R s m args below meth c D ad cA H locs ls' C hP hS hl)
theorem s_if_gt {x : Int32} {tgt : Nat} (h : zJ M.2.1 pc (fun o => .ifCond .gt o) tgt pc') (kt : 0 < x → zSem d M tgt ls st S Q) (kf : ¬ 0 < x → zSem d M pc' ls st S Q) : zSem d M pc ls (.int x :: st) S Q := by
  intro p l e R s m args below meth c D ad cA H locs ls' C hP hS hl
  obtain ⟨off, h1, h2, rfl⟩ := h
  exact lv_if_gt C.1 C.2.1 h1 h2 (fun q => kt q p l e R s m args below meth c D ad cA H locs ls' C hP hS hl) (fun q => kf q p l e R s m args below meth c D ad cA H locs ls' C hP hS hl)
theorem s_icmp_gt {x y : Int32} {tgt : Nat} (h : zJ M.2.1 pc (fun o => .if_icmp .gt o) tgt pc') (kt : y < x → zSem d M tgt ls st S Q) (kf : ¬ y < x → zSem d M pc' ls st S Q) : zSem d M pc ls (.int y :: .int x :: st) S Q := by
  intro p l e R s m args below meth c D ad cA H locs ls' C hP hS hl
  obtain ⟨off, h1, h2, rfl⟩ := h
  exact lv_icmp_gt C.1 C.2.1 h1 h2 (fun q => kt q p l e R s m args below meth c D ad cA H locs ls' C hP hS hl) (fun q => kf q p l e R s m args below meth c D ad cA H locs ls' C hP hS hl)
theorem s_if_le {x : Int32} {tgt : Nat} (h : zJ M.2.1 pc (fun o => .ifCond .le o) tgt pc') (kt : x ≤ 0 → zSem d M tgt ls st S Q) (kf : ¬ x ≤ 0 → zSem d M pc' ls st S Q) : zSem d M pc ls (.int x :: st) S Q := by
  intro p l e R s m args below meth c D ad cA H locs ls' C hP hS hl
  obtain ⟨off, h1, h2, rfl⟩ := h
  exact lv_if_le C.1 C.2.1 h1 h2 (fun q => kt q p l e R s m args below meth c D ad cA H locs ls' C hP hS hl) (fun q => kf q p l e R s m args below meth c D ad cA H locs ls' C hP hS hl)
theorem s_icmp_le {x y : Int32} {tgt : Nat} (h : zJ M.2.1 pc (fun o => .if_icmp .le o) tgt pc') (kt : x ≤ y → zSem d M tgt ls st S Q) (kf : ¬ x ≤ y → zSem d M pc' ls st S Q) : zSem d M pc ls (.int y :: .int x :: st) S Q := by
  intro p l e R s m args below meth c D ad cA H locs ls' C hP hS hl
  obtain ⟨off, h1, h2, rfl⟩ := h
  exact lv_icmp_le C.1 C.2.1 h1 h2 (fun q => kt q p l e R s m args below meth c D ad cA H locs ls' C hP hS hl) (fun q => kf q p l e R s m args below meth c D ad cA H locs ls' C hP hS hl)
theorem s_goto {tgt : Nat} (h : zG M.2.1 pc tgt) (k : zSem d M tgt ls st S Q) : zSem d M pc ls st S Q := by
  intro p l e R s m args below meth c D ad cA H locs ls' C hP hS hl
  obtain ⟨off, h1, h2⟩ := h
  exact lv_goto C.1 C.2.1 h1 h2 (k p l e R s m args below meth c D ad cA H locs ls' C hP hS hl)
def zCs (x : Int32) (P : Nat → Prop) : Nat → List Nat → Prop
  | _, [] => True
  | k, t :: r => (x = Int32.ofNat k → P t) ∧ zCs x P (k + 1) r
theorem zCs_at {x : Int32} {P : Nat → Prop} : ∀ (tg : List Nat) (k i t : Nat), zCs x P k tg → tg[i]? = some t → x = Int32.ofNat (k + i) → P t
  | [], _, i, t, _, h, _ => by simp at h
  | a :: r, k, 0, t, h, hi, hx => by
    have hi : some a = some t := hi
    cases hi
    exact h.1 hx
  | a :: r, k, i + 1, t, h, hi, hx => zCs_at r (k + 1) i t h.2 (by simpa using hi) (by rw [hx]; congr 1; omega)
theorem s_table {x : Int32} {dflt : Int} {lo hi len : Nat} {offs : Array Int} (tg : List Nat) (td : Nat) (h : zD M.2.1 pc (.tableswitch dflt (lo : Int) (hi : Int) offs) len pc') (hd : (pc : Int) + dflt = (td : Int)) (ht : offs.toList.map (fun o => (pc : Int) + o) = tg.map Int.ofNat) (hn : tg.length = hi + 1 - lo) (hlh : lo ≤ hi ∧ hi < 2 ^ 31)
    (kc : zCs x (fun t => zSem d M t ls st S Q) lo tg) (kd : (x.toInt < (lo : Int) ∨ (hi : Int) < x.toInt) → zSem d M td ls st S Q) : zSem d M pc ls (.int x :: st) S Q := by
  intro p l e R s m args below meth c D ad cA H locs ls' C hP hS hl
  obtain ⟨h1, rfl⟩ := h
  by_cases hx : x.toInt < (lo : Int) ∨ (hi : Int) < x.toInt
  · exact lv_tableOut C.1 C.2.1 h1 hx hd (kd hx p l e R s m args below meth c D ad cA H locs ls' C hP hS hl)
  · have a1 : ¬ x.toInt < (lo : Int) := fun q => hx (Or.inl q)
    have a2 : ¬ (hi : Int) < x.toInt := fun q => hx (Or.inr q)
    obtain ⟨i, hi1⟩ : ∃ i : Nat, x.toInt = (lo : Int) + i := ⟨(x.toInt - lo).toNat, by omega⟩
    have hit : i < tg.length := by omega
    have e1 : (offs.toList.map (fun o => (pc : Int) + o))[i]? = some ((tg[i] : Nat) : Int) := by rw [ht, List.getElem?_map, List.getElem?_eq_getElem hit]; rfl
    rw [List.getElem?_map] at e1
    cases ho : offs.toList[i]? with
    | none => rw [ho] at e1; cases e1
    | some off =>
      rw [ho] at e1
      have e1 : some ((pc : Int) + off) = some ((tg[i] : Nat) : Int) := e1
      have e2 : (pc : Int) + off = ((tg[i] : Nat) : Int) := Option.some.inj e1
      have hxi : x = Int32.ofNat (lo + i) := by
        apply Int32.toInt_inj.mp
        show x.toInt = (nI (lo + i)).toInt
        rw [nI_toInt (by omega), hi1]; push_cast; rfl
      refine lv_tableIn (off := off) (tgt := tg[i]) C.1 C.2.1 h1 a1 a2 ?_ e2 (zCs_at tg lo i tg[i] kc (List.getElem?_eq_getElem hit) hxi p l e R s m args below meth c D ad cA H locs ls' C hP hS hl)
      rw [show (x.toInt - (lo : Int)).toNat = i by omega, ← Array.getElem?_toList]
      exact ho
theorem s_look2 {x : Int32} {dflt o1 o2 : Int} {k1 k2 len : Nat} (t1 t2 td : Nat) (h : zD M.2.1 pc (.lookupswitch dflt #[((k1 : Int), o1), ((k2 : Int), o2)]) len pc') (hd : (pc : Int) + dflt = (td : Int)) (h1 : (pc : Int) + o1 = (t1 : Int)) (h2 : (pc : Int) + o2 = (t2 : Int)) (hk : k1 < k2 ∧ k2 < 2 ^ 31)
    (c1 : x = Int32.ofNat k1 → zSem d M t1 ls st S Q) (c2 : x = Int32.ofNat k2 → zSem d M t2 ls st S Q) (kd : x ≠ Int32.ofNat k1 → x ≠ Int32.ofNat k2 → zSem d M td ls st S Q) : zSem d M pc ls (.int x :: st) S Q := by
  intro p l e R s m args below meth c D ad cA H locs ls' C hP hS hl
  obtain ⟨h0, rfl⟩ := h
  have hs : ((#[((k1 : Int), o1), ((k2 : Int), o2)] : Array (Int × Int)).toList.zip ((#[((k1 : Int), o1), ((k2 : Int), o2)] : Array (Int × Int)).toList.drop 1)).all (fun (a, next) => a.1 < next.1) = true := by
    simp; omega
  have z : ∀ k : Nat, k < 2 ^ 31 → (x = Int32.ofNat k ↔ x.toInt = (k : Int)) := fun k hk => by
    rw [← Int32.toInt_inj]
    show x.toInt = (nI k).toInt ↔ _
    rw [nI_toInt hk]
  by_cases e1 : x = Int32.ofNat k1
  · have q1 := (z k1 (by omega)).mp e1
    refine lv_lookup (off := o1) C.1 C.2.1 h0 hs ?_ h1 (c1 e1 p l e R s m args below meth c D ad cA H locs ls' C hP hS hl)
    simp [Op.lookupswitch.offset, q1]
  · by_cases e2 : x = Int32.ofNat k2
    · have q2 := (z k2 hk.2).mp e2
      refine lv_lookup (off := o2) C.1 C.2.1 h0 hs ?_ h2 (c2 e2 p l e R s m args below meth c D ad cA H locs ls' C hP hS hl)
      have q3 : ¬ (k2 : Int) = (k1 : Int) := by omega
      have q4 : ¬ (k1 : Int) = (k2 : Int) := by omega
      simp [Op.lookupswitch.offset, q2, q3, q4]
    · have q1 : ¬ x.toInt = (k1 : Int) := fun q => e1 ((z k1 (by omega)).mpr q)
      have q2 : ¬ x.toInt = (k2 : Int) := fun q => e2 ((z k2 hk.2).mpr q)
      refine lv_lookup (off := dflt) C.1 C.2.1 h0 hs ?_ hd (kd e1 e2 p l e R s m args below meth c D ad cA H locs ls' C hP hS hl)
      have q3 : ¬ (k1 : Int) = x.toInt := fun q => q1 q.symm
      have q4 : ¬ (k2 : Int) = x.toInt := fun q => q2 q.symm
      simp [Op.lookupswitch.offset, q1, q2, q3, q4]
end ZR
