def zAr (b t n : Nat) : Prop := b < 70 ∧ zlay b = .inr (t, n)
def zOb (b ci : Nat) : Prop := b < 70 ∧ zlay b = .inl ci
def zFI (ci j : Nat) : Prop := ci < 8 ∧ j < (zC ci).2.2 ∧ zty ci j = .int
def zFZ (ci j : Nat) : Prop := ci < 8 ∧ j < (zC ci).2.2 ∧ zty ci j = .boolean
def zFJ (ci j : Nat) : Prop := ci < 8 ∧ j < (zC ci).2.2 ∧ zty ci j = .long
def zFR (ci j : Nat) : Prop := ci < 8 ∧ j < (zC ci).2.2 ∧ ((∃ t, zty ci j = .array t) ∨ ∃ t, zty ci j = .object t)
def zFP (ci j : Nat) : Prop := ((zC ci).2.1 j).2.2.2 = false
def zX (r0 : Option Value) (S0 : ZSt) : Option Value → ZSt → Prop := fun r S' => r = r0 ∧ S' = S0
def zY (r0 : Option Value) (P0 : ZSt → Prop) : Option Value → ZSt → Prop := fun r S' => r = r0 ∧ P0 S'
theorem zen_arI {ad : Nat → Nat} {cA : Nat → ClassId} {S : ZSt} {b t n : Nat} (h : zAr b t n) (ht : t < 3) : zen ad cA S b = .inl (cA t, n, .inl (S.1 b)) := by
  unfold zen
  rw [h.2]
  show Sum.inl (cA t, n, zar ad S b t) = _
  unfold zar
  rw [if_neg (by omega), if_neg (by omega)]
theorem zen_arL {ad : Nat → Nat} {cA : Nat → ClassId} {S : ZSt} {b n : Nat} (h : zAr b 3 n) : zen ad cA S b = .inl (cA 3, n, .inr (.inl (S.2 b))) := by
  unfold zen
  rw [h.2]
  rfl
theorem zen_arR {ad : Nat → Nat} {cA : Nat → ClassId} {S : ZSt} {b n : Nat} (h : zAr b 4 n) : zen ad cA S b = .inl (cA 4, n, .inr (.inr (.inr (.inr (fun i => some (ad (zrf b i))))))) := by
  unfold zen
  rw [h.2]
  rfl
theorem zen_ob {ad : Nat → Nat} {cA : Nat → ClassId} {S : ZSt} {b ci : Nat} (h : zOb b ci) : zen ad cA S b = .inr (ci, zfs ad S b ci) := by
  unfold zen
  rw [h.2]
theorem zat_arI {ad : Nat → Nat} {cA : Nat → ClassId} {S : ZSt} {b t n : Nat} (h : zAr b t n) (ht : t < 3) : (zws ad cA S)[b]? = some (ad b, .inl (cA t, n, .inl (S.1 b))) := by rw [zws_at ad cA S h.1, zen_arI h ht]
theorem zat_arL {ad : Nat → Nat} {cA : Nat → ClassId} {S : ZSt} {b n : Nat} (h : zAr b 3 n) : (zws ad cA S)[b]? = some (ad b, .inl (cA 3, n, .inr (.inl (S.2 b)))) := by rw [zws_at ad cA S h.1, zen_arL h]
theorem zat_arR {ad : Nat → Nat} {cA : Nat → ClassId} {S : ZSt} {b n : Nat} (h : zAr b 4 n) : (zws ad cA S)[b]? = some (ad b, .inl (cA 4, n, .inr (.inr (.inr (.inr (fun i => some (ad (zrf b i)))))))) := by rw [zws_at ad cA S h.1, zen_arR h]
theorem zat_ob {ad : Nat → Nat} {cA : Nat → ClassId} {S : ZSt} {b ci : Nat} (h : zOb b ci) : (zws ad cA S)[b]? = some (ad b, .inr (ci, zfs ad S b ci)) := by rw [zws_at ad cA S h.1, zen_ob h]
theorem zfs_at {ad : Nat → Nat} {S : ZSt} {b ci j : Nat} (h : j < (zC ci).2.2) : (zfs ad S b ci)[j]? = some (zfv ad S b ci j) := by unfold zfs; rw [List.getElem?_map, List.getElem?_range h]; rfl
theorem zpI_self (S : ZSt) (b j : Nat) (x : Int32) : (pI S b j x).1 b = upd (S.1 b) j x := by simp [pI]
theorem zpL_self (S : ZSt) (b j : Nat) (x : Int64) : (pL S b j x).2 b = vp_updL (S.2 b) j x := by simp [pL]
theorem zcp_self (S : ZSt) (b b' sp dp n : Nat) : (cpI S b b' sp dp n).1 b' = va_cpy (S.1 b) (S.1 b') sp dp n := by simp [cpI]
theorem zset_arI {ad : Nat → Nat} {cA : Nat → ClassId} {S : ZSt} {b t n : Nat} (h : zAr b t n) (ht : t < 3) (i : Nat) (x : Int32) : (zws ad cA S).set b (ad b, .inl (cA t, n, .inl (upd (S.1 b) i x))) = zws ad cA (pI S b i x) :=
  zws_set ad cA S (pI S b i x) b _ (fun a ha => zen_ne_I ad cA S b i x a ha) (by rw [zen_arI h ht, zpI_self])
theorem zset_arL {ad : Nat → Nat} {cA : Nat → ClassId} {S : ZSt} {b n : Nat} (h : zAr b 3 n) (i : Nat) (x : Int64) : (zws ad cA S).set b (ad b, .inl (cA 3, n, .inr (.inl (vp_updL (S.2 b) i x)))) = zws ad cA (pL S b i x) :=
  zws_set ad cA S (pL S b i x) b _ (fun a ha => zen_ne_L ad cA S b i x a ha) (by rw [zen_arL h, zpL_self])
theorem zset_cp {ad : Nat → Nat} {cA : Nat → ClassId} {S : ZSt} {b b' n : Nat} (h : zAr b' 0 n) (sp dp k : Nat) : (zws ad cA S).set b' (ad b', .inl (cA 0, n, .inl (va_cpy (S.1 b) (S.1 b') sp dp k))) = zws ad cA (cpI S b b' sp dp k) :=
  zws_set ad cA S (cpI S b b' sp dp k) b' _ (fun a ha => zen_ne_C ad cA S b b' sp dp k a ha) (by rw [zen_arI h (by omega), zcp_self])
theorem zset_obI {ad : Nat → Nat} {cA : Nat → ClassId} {S : ZSt} {b ci j : Nat} (h : zOb b ci) (hty : zty ci j = .int ∨ zty ci j = .boolean) (x : Int32) : (zws ad cA S).set b (ad b, .inr (ci, (zfs ad S b ci).set j (.int x))) = zws ad cA (pI S b j x) := by
  refine zws_set ad cA S (pI S b j x) b _ (fun a ha => zen_ne_I ad cA S b j x a ha) ?_
  rw [zen_ob h]
  congr 2
  unfold zfs
  symm
  refine zmap_set _ _ _ _ _ (fun a ha => ?_) ?_
  · unfold zfv
    rw [zpI_self]
    have e : upd (S.1 b) j x a = S.1 b a := by simp [upd, ha]
    rw [e]
    rfl
  · unfold zfv
    rw [zpI_self]
    have e : upd (S.1 b) j x j = x := by simp [upd]
    rcases hty with q | q <;> rw [q, e]
theorem zset_obL {ad : Nat → Nat} {cA : Nat → ClassId} {S : ZSt} {b ci j : Nat} (h : zOb b ci) (hty : zty ci j = .long) (x : Int64) : (zws ad cA S).set b (ad b, .inr (ci, (zfs ad S b ci).set j (.long x))) = zws ad cA (pL S b j x) := by
  refine zws_set ad cA S (pL S b j x) b _ (fun a ha => zen_ne_L ad cA S b j x a ha) ?_
  rw [zen_ob h]
  congr 2
  unfold zfs
  symm
  refine zmap_set _ _ _ _ _ (fun a ha => ?_) ?_
  · unfold zfv
    rw [zpL_self]
    have e : vp_updL (S.2 b) j x a = S.2 b a := by simp [vp_updL, ha]
    rw [e]
    rfl
  · unfold zfv
    rw [zpL_self]
    have e : vp_updL (S.2 b) j x j = x := by simp [vp_updL]
    rw [hty, e]
section ZR2
variable {d : Nat} {M : ZM} {pc pc' : Nat} {ls : List (Option Value)} {st : List Value} {S : ZSt} {Q : Option Value → ZSt → Prop}
theorem s_iaload {b n : Nat} {i : Int32} (h : zD M.2.1 pc (.iaload) 1 pc') (hb : zAr b 0 n) (hi : vp_in i n) (k : zSem d M pc' ls (.int (gI S b i.toNatClampNeg) :: st) S Q) : zSem d M pc ls (.int i :: .ref b :: st) S Q := by
  intro p l e R s m args below meth c D ad cA H locs ls' C hP hS hl
  obtain ⟨h1, rfl⟩ := h
  exact va_iald C.1 C.2.1 C.2.2.2.2.2.2.2.2.2.1 hP b 0 (zat_arI hb (by decide)) rfl hi h1 (k p l e R s m args below meth c D ad cA H locs ls' C hP hS hl)
theorem s_zaload {b n : Nat} {i : Int32} (h : zD M.2.1 pc (.baload) 1 pc') (hb : zAr b 1 n) (hi : vp_in i n) (k : zSem d M pc' ls (.int (gI S b i.toNatClampNeg) :: st) S Q) : zSem d M pc ls (.int i :: .ref b :: st) S Q := by
  intro p l e R s m args below meth c D ad cA H locs ls' C hP hS hl
  obtain ⟨h1, rfl⟩ := h
  exact va_zald C.1 C.2.1 C.2.2.2.2.2.2.2.2.2.1 hP b 1 (zat_arI hb (by decide)) rfl hi h1 (k p l e R s m args below meth c D ad cA H locs ls' C hP hS hl)
theorem s_baload {b n : Nat} {i : Int32} (h : zD M.2.1 pc (.baload) 1 pc') (hb : zAr b 2 n) (hi : vp_in i n) (k : zSem d M pc' ls (.int (gI S b i.toNatClampNeg) :: st) S Q) : zSem d M pc ls (.int i :: .ref b :: st) S Q := by
  intro p l e R s m args below meth c D ad cA H locs ls' C hP hS hl
  obtain ⟨h1, rfl⟩ := h
  exact va_bald C.1 C.2.1 C.2.2.2.2.2.2.2.2.2.1 hP b 2 (zat_arI hb (by decide)) rfl hi h1 (k p l e R s m args below meth c D ad cA H locs ls' C hP hS hl)
theorem s_laload {b n : Nat} {i : Int32} (h : zD M.2.1 pc (.laload) 1 pc') (hb : zAr b 3 n) (hi : vp_in i n) (k : zSem d M pc' ls (.long (gL S b i.toNatClampNeg) :: st) S Q) : zSem d M pc ls (.int i :: .ref b :: st) S Q := by
  intro p l e R s m args below meth c D ad cA H locs ls' C hP hS hl
  obtain ⟨h1, rfl⟩ := h
  exact va_lald C.1 C.2.1 C.2.2.2.2.2.2.2.2.2.1 hP b 3 (zat_arL hb) rfl hi h1 (k p l e R s m args below meth c D ad cA H locs ls' C hP hS hl)
theorem s_aaload {b n : Nat} {i : Int32} (h : zD M.2.1 pc (.aaload) 1 pc') (hb : zAr b 4 n) (hi : vp_in i n) (k : zSem d M pc' ls (.ref (zrf b i.toNatClampNeg) :: st) S Q) : zSem d M pc ls (.int i :: .ref b :: st) S Q := by
  intro p l e R s m args below meth c D ad cA H locs ls' C hP hS hl
  obtain ⟨h1, rfl⟩ := h
  exact va_aldq C.1 C.2.1 C.2.2.2.2.2.2.2.2.2.1 hP b 4 (zat_arR hb) rfl hi h1 (k p l e R s m args below meth c D ad cA H locs ls' C hP hS hl)
theorem s_iastore {b n : Nat} {i x : Int32} (h : zD M.2.1 pc (.iastore) 1 pc') (hb : zAr b 0 n) (hi : vp_in i n) (k : zSem d M pc' ls st (pI S b i.toNatClampNeg x) Q) : zSem d M pc ls (.int x :: .int i :: .ref b :: st) S Q := by
  intro p l e R s m args below meth c D ad cA H locs ls' C hP hS hl
  obtain ⟨h1, rfl⟩ := h
  exact va_iast C.1 C.2.1 C.2.2.2.2.2.2.2.2.2.1 hP (zws_D ad cA S C.2.2.2.2.2.2.2.2.2.2.1) hS b 0 (zat_arI hb (by decide)) rfl hi h1 (fun H1 locs1 hP1 _ hS1 => k p l e R s m args below meth c D ad cA H1 locs1 ls' C (by rw [← zset_arI hb (by decide)]; exact hP1) hS1 hl)
theorem s_zastore {b n : Nat} {i x : Int32} (h : zD M.2.1 pc (.bastore) 1 pc') (hb : zAr b 1 n) (hi : vp_in i n) (k : zSem d M pc' ls st (pI S b i.toNatClampNeg (vp_nar .boolean x)) Q) : zSem d M pc ls (.int x :: .int i :: .ref b :: st) S Q := by
  intro p l e R s m args below meth c D ad cA H locs ls' C hP hS hl
  obtain ⟨h1, rfl⟩ := h
  exact va_zast C.1 C.2.1 C.2.2.2.2.2.2.2.2.2.1 hP (zws_D ad cA S C.2.2.2.2.2.2.2.2.2.2.1) hS b 1 (zat_arI hb (by decide)) rfl hi h1 (fun H1 locs1 hP1 _ hS1 => k p l e R s m args below meth c D ad cA H1 locs1 ls' C (by rw [← zset_arI hb (by decide)]; exact hP1) hS1 hl)
theorem s_bastore {b n : Nat} {i x : Int32} (h : zD M.2.1 pc (.bastore) 1 pc') (hb : zAr b 2 n) (hi : vp_in i n) (k : zSem d M pc' ls st (pI S b i.toNatClampNeg (vp_nar .byte x)) Q) : zSem d M pc ls (.int x :: .int i :: .ref b :: st) S Q := by
  intro p l e R s m args below meth c D ad cA H locs ls' C hP hS hl
  obtain ⟨h1, rfl⟩ := h
  exact va_bast C.1 C.2.1 C.2.2.2.2.2.2.2.2.2.1 hP (zws_D ad cA S C.2.2.2.2.2.2.2.2.2.2.1) hS b 2 (zat_arI hb (by decide)) rfl hi h1 (fun H1 locs1 hP1 _ hS1 => k p l e R s m args below meth c D ad cA H1 locs1 ls' C (by rw [← zset_arI hb (by decide)]; exact hP1) hS1 hl)
theorem s_lastore {b n : Nat} {i : Int32} {x : Int64} (h : zD M.2.1 pc (.lastore) 1 pc') (hb : zAr b 3 n) (hi : vp_in i n) (k : zSem d M pc' ls st (pL S b i.toNatClampNeg x) Q) : zSem d M pc ls (.long x :: .int i :: .ref b :: st) S Q := by
  intro p l e R s m args below meth c D ad cA H locs ls' C hP hS hl
  obtain ⟨h1, rfl⟩ := h
  exact va_last C.1 C.2.1 C.2.2.2.2.2.2.2.2.2.1 hP (zws_D ad cA S C.2.2.2.2.2.2.2.2.2.2.1) hS b 3 (zat_arL hb) rfl hi h1 (fun H1 locs1 hP1 _ hS1 => k p l e R s m args below meth c D ad cA H1 locs1 ls' C (by rw [← zset_arL hb]; exact hP1) hS1 hl)
theorem s_alen {b n : Nat} {v : Int32} (h : zD M.2.1 pc (.arraylength) 1 pc') (hb : zAr b 0 n) (hv : Int32.ofNat n = v) (k : zSem d M pc' ls (.int v :: st) S Q) : zSem d M pc ls (.ref b :: st) S Q := by
  intro p l e R s m args below meth c D ad cA H locs ls' C hP hS hl
  obtain ⟨h1, rfl⟩ := h
  exact va_alen C.1 C.2.1 C.2.2.2.2.2.2.2.2.2.1 hP b 0 (zat_arI hb (by decide)) rfl hv h1 (k p l e R s m args below meth c D ad cA H locs ls' C hP hS hl)
theorem s_getI {b ci j ix : Nat} (h : zD M.2.1 pc (.getfield ix) 3 pc') (hf : zFL M.1.cls ix ci j) (ho : zOb b ci) (ht : zFI ci j) (k : zSem d M pc' ls (.int (gI S b j) :: st) S Q) : zSem d M pc ls (.ref b :: st) S Q := by
  intro p l e R s m args below meth c D ad cA H locs ls' C hP hS hl
  obtain ⟨h1, rfl⟩ := h
  refine va_get C.1 C.2.1 (fun w hw => C.2.2.2.2.1 w hw args) (zhin ci ht.1) C.2.2.2.1 C.2.2.2.2.2.2.2.2.2.1 hP b (zat_ob ho) (zhcl ci ht.1) j ht.2.1 (C.2.2.2.2.1 _ hf args) (fun _ h9 => h9) (v := cv ad (.int (gI S b j))) (by rw [zfs_at ht.2.1]; congr 1; unfold zfv; rw [ht.2.2]; rfl) h1 (k p l e R s m args below meth c D ad cA H locs ls' C hP hS hl)
theorem s_getZ {b ci j ix : Nat} (h : zD M.2.1 pc (.getfield ix) 3 pc') (hf : zFL M.1.cls ix ci j) (ho : zOb b ci) (ht : zFZ ci j) (k : zSem d M pc' ls (.int (gI S b j) :: st) S Q) : zSem d M pc ls (.ref b :: st) S Q := by
  intro p l e R s m args below meth c D ad cA H locs ls' C hP hS hl
  obtain ⟨h1, rfl⟩ := h
  refine va_get C.1 C.2.1 (fun w hw => C.2.2.2.2.1 w hw args) (zhin ci ht.1) C.2.2.2.1 C.2.2.2.2.2.2.2.2.2.1 hP b (zat_ob ho) (zhcl ci ht.1) j ht.2.1 (C.2.2.2.2.1 _ hf args) (fun _ h9 => h9) (v := cv ad (.int (gI S b j))) (by rw [zfs_at ht.2.1]; congr 1; unfold zfv; rw [ht.2.2]; rfl) h1 (k p l e R s m args below meth c D ad cA H locs ls' C hP hS hl)
theorem s_getJ {b ci j ix : Nat} (h : zD M.2.1 pc (.getfield ix) 3 pc') (hf : zFL M.1.cls ix ci j) (ho : zOb b ci) (ht : zFJ ci j) (k : zSem d M pc' ls (.long (gL S b j) :: st) S Q) : zSem d M pc ls (.ref b :: st) S Q := by
  intro p l e R s m args below meth c D ad cA H locs ls' C hP hS hl
  obtain ⟨h1, rfl⟩ := h
  refine va_get C.1 C.2.1 (fun w hw => C.2.2.2.2.1 w hw args) (zhin ci ht.1) C.2.2.2.1 C.2.2.2.2.2.2.2.2.2.1 hP b (zat_ob ho) (zhcl ci ht.1) j ht.2.1 (C.2.2.2.2.1 _ hf args) (fun _ h9 => h9) (v := cv ad (.long (gL S b j))) (by rw [zfs_at ht.2.1]; congr 1; unfold zfv; rw [ht.2.2]; rfl) h1 (k p l e R s m args below meth c D ad cA H locs ls' C hP hS hl)
theorem s_getR0 {b ci j ix : Nat} (h : zD M.2.1 pc (.getfield ix) 3 pc') (hf : zFL M.1.cls ix ci j) (ho : zOb b ci) (ht : zFR ci j) (k : zSem d M pc' ls (.ref (zrf b j) :: st) S Q) : zSem d M pc ls (.ref b :: st) S Q := by
  intro p l e R s m args below meth c D ad cA H locs ls' C hP hS hl
  obtain ⟨h1, rfl⟩ := h
  refine va_get C.1 C.2.1 (fun w hw => C.2.2.2.2.1 w hw args) (zhin ci ht.1) C.2.2.2.1 C.2.2.2.2.2.2.2.2.2.1 hP b (zat_ob ho) (zhcl ci ht.1) j ht.2.1 (C.2.2.2.2.1 _ hf args) (fun _ h9 => h9) (v := cv ad (.ref (zrf b j))) (by rw [zfs_at ht.2.1]; congr 1; unfold zfv; rcases ht.2.2 with ⟨t, q⟩ | ⟨t, q⟩ <;> rw [q] <;> rfl) h1 (k p l e R s m args below meth c D ad cA H locs ls' C hP hS hl)
theorem s_getR {b b' ci j ix : Nat} (h : zD M.2.1 pc (.getfield ix) 3 pc') (hf : zFL M.1.cls ix ci j) (ho : zOb b ci) (ht : zFR ci j) (hr : zrf b j = b') (k : zSem d M pc' ls (.ref b' :: st) S Q) : zSem d M pc ls (.ref b :: st) S Q := s_getR0 h hf ho ht (by rw [hr]; exact k)
theorem s_putI {b ci j ix : Nat} {x : Int32} (h : zD M.2.1 pc (.putfield ix) 3 pc') (hf : zFL M.1.cls ix ci j) (ho : zOb b ci) (ht : zFI ci j) (hfin : zFP ci j) (k : zSem d M pc' ls st (pI S b j x) Q) : zSem d M pc ls (.int x :: .ref b :: st) S Q := by
  intro p l e R s m args below meth c D ad cA H locs ls' C hP hS hl
  obtain ⟨h1, rfl⟩ := h
  exact va_put C.1 C.2.1 (fun w hw => C.2.2.2.2.1 w hw args) (zhin ci ht.1) (zty ci) (zhty ci ht.1) (zhnm ci ht.1) C.2.2.2.1 C.2.2.2.2.2.2.2.2.2.1 hP (zws_D ad cA S C.2.2.2.2.2.2.2.2.2.2.1) hS b (zat_ob ho) (zhcl ci ht.1) j ht.2.1 (C.2.2.2.2.1 _ hf args) (fun _ h9 => h9) hfin (zhty ci ht.1 j ht.2.1) (v := .int x) (by rw [ht.2.2]; rfl) (by rw [ht.2.2]; rfl) (by simpa [zfs] using ht.2.1) h1 (fun H1 locs1 hP1 _ hS1 => k p l e R s m args below meth c D ad cA H1 locs1 ls' C (by rw [← zset_obI ho (Or.inl ht.2.2)]; exact hP1) hS1 hl)
theorem s_putZ {b ci j ix : Nat} {x : Int32} (h : zD M.2.1 pc (.putfield ix) 3 pc') (hf : zFL M.1.cls ix ci j) (ho : zOb b ci) (ht : zFZ ci j) (hfin : zFP ci j) (hx : x = 0 ∨ x = 1) (k : zSem d M pc' ls st (pI S b j x) Q) : zSem d M pc ls (.int x :: .ref b :: st) S Q := by
  intro p l e R s m args below meth c D ad cA H locs ls' C hP hS hl
  obtain ⟨h1, rfl⟩ := h
  exact va_put C.1 C.2.1 (fun w hw => C.2.2.2.2.1 w hw args) (zhin ci ht.1) (zty ci) (zhty ci ht.1) (zhnm ci ht.1) C.2.2.2.1 C.2.2.2.2.2.2.2.2.2.1 hP (zws_D ad cA S C.2.2.2.2.2.2.2.2.2.2.1) hS b (zat_ob ho) (zhcl ci ht.1) j ht.2.1 (C.2.2.2.2.1 _ hf args) (fun _ h9 => h9) hfin (zhty ci ht.1 j ht.2.1) (v := .int x) (by rw [ht.2.2]; rcases hx with rfl | rfl <;> rfl) (by rw [ht.2.2]; rcases hx with rfl | rfl <;> rfl) (by simpa [zfs] using ht.2.1) h1 (fun H1 locs1 hP1 _ hS1 => k p l e R s m args below meth c D ad cA H1 locs1 ls' C (by rw [← zset_obI ho (Or.inr ht.2.2)]; exact hP1) hS1 hl)
theorem s_putJ {b ci j ix : Nat} {x : Int64} (h : zD M.2.1 pc (.putfield ix) 3 pc') (hf : zFL M.1.cls ix ci j) (ho : zOb b ci) (ht : zFJ ci j) (hfin : zFP ci j) (k : zSem d M pc' ls st (pL S b j x) Q) : zSem d M pc ls (.long x :: .ref b :: st) S Q := by
  intro p l e R s m args below meth c D ad cA H locs ls' C hP hS hl
  obtain ⟨h1, rfl⟩ := h
  exact va_put C.1 C.2.1 (fun w hw => C.2.2.2.2.1 w hw args) (zhin ci ht.1) (zty ci) (zhty ci ht.1) (zhnm ci ht.1) C.2.2.2.1 C.2.2.2.2.2.2.2.2.2.1 hP (zws_D ad cA S C.2.2.2.2.2.2.2.2.2.2.1) hS b (zat_ob ho) (zhcl ci ht.1) j ht.2.1 (C.2.2.2.2.1 _ hf args) (fun _ h9 => h9) hfin (zhty ci ht.1 j ht.2.1) (v := .long x) (by rw [ht.2.2]; rfl) (by rw [ht.2.2]; rfl) (by simpa [zfs] using ht.2.1) h1 (fun H1 locs1 hP1 _ hS1 => k p l e R s m args below meth c D ad cA H1 locs1 ls' C (by rw [← zset_obL ho ht.2.2]; exact hP1) hS1 hl)
theorem s_ireturn {x : Int32} (h : zD M.2.1 pc (.ireturn) 1 pc') (hM : M.2.2.2 = some .int) (hq : Q (some (.int x)) S) : zSem d M pc ls [.int x] S Q := by
  intro p l e R s m args below meth c D ad cA H locs ls' C hP hS hl
  exact W.iret (v := x) C.1 C.2.1 (C.2.2.2.2.2.1.trans hM) (fun t ht hW => ⟨⟨some (.int x), S, rfl, hq, by rw [ht]; exact hP⟩, hS.F ht⟩) hS.2.2 h.1 (hlocks := C.2.2.2.2.2.2.1)
theorem s_zreturn {x : Int32} (h : zD M.2.1 pc (.ireturn) 1 pc') (hM : M.2.2.2 = some .boolean) (hx : x = 0 ∨ x = 1) (hq : Q (some (.int x)) S) : zSem d M pc ls [.int x] S Q := by
  intro p l e R s m args below meth c D ad cA H locs ls' C hP hS hl
  exact W.zret (v := x) C.1 C.2.1 (C.2.2.2.2.2.1.trans hM) (by rcases hx with rfl | rfl <;> rfl) (fun t ht hW => ⟨⟨some (.int x), S, rfl, hq, by rw [ht]; exact hP⟩, hS.F ht⟩) hS.2.2 h.1 (hlocks := C.2.2.2.2.2.2.1)
theorem s_lreturn {x : Int64} (h : zD M.2.1 pc (.lreturn) 1 pc') (hM : M.2.2.2 = some .long) (hq : Q (some (.long x)) S) : zSem d M pc ls [.long x] S Q := by
  intro p l e R s m args below meth c D ad cA H locs ls' C hP hS hl
  exact W.lret (v := x) C.1 C.2.1 (C.2.2.2.2.2.1.trans hM) (fun t ht hW => ⟨⟨some (.long x), S, rfl, hq, by rw [ht]; exact hP⟩, hS.F ht⟩) hS.2.2 h.1 (hlocks := C.2.2.2.2.2.2.1)
theorem s_return (h : zD M.2.1 pc (.return_) 1 pc') (hM : M.2.2.2 = none) (hq : Q none S) : zSem d M pc ls [] S Q := by
  intro p l e R s m args below meth c D ad cA H locs ls' C hP hS hl
  exact W.vret C.1 C.2.1 (C.2.2.2.2.2.1.trans hM) (fun t ht hW => ⟨⟨none, S, rfl, hq, by rw [ht]; exact hP⟩, hS.F ht⟩) hS.2.2 h.1 (hlocks := C.2.2.2.2.2.2.1)
end ZR2
def zpush (r : Option Value) (st : List Value) : List Value := match r with
  | none => st
  | some v => v :: st
theorem zpush_map (ad : Nat → Nat) (r : Option Value) (st : List Value) : (zpush r st).map (cv ad) = (r.map (cv ad)).toList ++ st.map (cv ad) := by cases r <;> rfl
section ZR3
variable {p : Program} {l : Launch} {e : Env} {R : Room} {s : State} {m : MethodId} {args : Array Value} {below : List Frame} {meth : Method} {c : Code} {H : Heap} {locs : List Loc} {Q : State → Prop} {D : va_G} {ad : Nat → Nat} {cA : Nat → ClassId} {pc : Nat} {ls' : Array Slot} {rest st0 : List Value} {a : Array Value} {Q' : Option Value → ZSt → Prop}
theorem z_go (hr : va_Run p l e R s m args below meth c H locs 0 0 0 0 (F0 m pc ls' st0) rest (zQc D ad cA Q' a) (zA ad)) (hS : va_S (zA ad) s.heap H locs)
    (kk : ∀ (r : Option Value) (S' : ZSt) (H1 : Heap) (locs1 : List Loc), Q' r S' → va_P D vwCl (zws ad cA S') H1 → va_S (zA ad) s.heap H1 locs1 → W p l e R s m args below meth c H1 locs1 0 0 Q (F0 m (pc + 3) ls' ((r.map (cv ad)).toList ++ rest))) : W p l e R s m args below meth c H locs 0 0 Q (F0 m pc ls' st0) := by
  intro T hT X
  obtain ⟨v, st₀, t, T', L, h0, X', hL, e1, e2, ⟨⟨r, S', hv, hq, hp⟩, hz, hk⟩, st⟩ := hr T hT X
  cases hv
  rw [h0] at hz hk
  obtain ⟨t2, a1, b1⟩ := kk r S' T'.heap (locs ++ L) hq (by rw [e1]; exact hp)
    ⟨Nat.le_trans hS.1 (by rw [e1]; exact hz), fun q h1 h2 => by rw [e1, hk q (Nat.lt_of_lt_of_le h1 hS.1) h2]; exact hS.2.1 q h1 h2, fun q hq => by
      rcases List.mem_append.mp hq with h | h
      · exact hS.2.2 q h
      · exact hL q h⟩ T' rfl X'
  exact ⟨t2, st t2 a1, b1⟩
end ZR3
section ZR4
variable {d d' : Nat} {M M' : ZM} {pc pc' n ix : Nat} {ls : List (Option Value)} {st stk As : List Value} {S : ZSt} {Q Q' : Option Value → ZSt → Prop} {host : String}
theorem z_CB {R : Room} {s : State} {args : Array Value} {own : String} (hT : zTb s) (cw : zCW M' n) (hd : d' < d) (hF : d ≤ R.frames) (hLo : 36 * d ≤ R.locals) (hl : (Cond.methodLink own ix M'.1).before args s = true) :
    CallB R s args own ix M'.1 M'.2.1 M'.2.2.1 M'.2.2.2 [.code M'.1 M'.2.1 M'.2.2.1 M'.2.2.2] { frames := d', cells := 0, slots := 0, locals := 36 * d' } 0 0 n := by
  refine ⟨rfl, rfl, ?_, ?_, fun w hw a' U hW => ?_, List.mem_singleton.mpr rfl, hT _ cw.1 args, hT _ cw.2.1 args, ⟨cw.2.2.1.1, cw.2.2.1.2.1⟩, fun sig h => ?_, hl⟩
  · show d' + 1 ≤ R.frames
    omega
  · show 8 + (M'.2.2.1 + 11) + 36 * d' ≤ R.locals
    have := cw.2.2.2.1
    omega
  · rw [List.mem_singleton.mp hw]
    exact hT.warm hW _ cw.1 a'
  · have h2 := cw.2.2.1.2.2
    rw [h] at h2
    exact (Option.some.inj h2).symm
theorem z_pre {s : State} {H : Heap} {D : va_G} {ad : Nat → Nat} {cA : Nat → ClassId} {locs : List Loc} {vs : List Value} (hT : zTb s) (hK : va_K D vwCl (ztys cA) s) (hI : zInj ad) (hE : zExt ad s s.heap) (hP : va_P D vwCl (zws ad cA S) H) (hS : va_S (zA ad) s.heap H locs) : ∀ U : State, U.heap = H → s.WarmedH U.vm → zPc D ad cA vs S (vs.map (cv ad)).toArray U := by
  intro U hU hW
  exact ⟨rfl, by rw [hU]; exact hP, va_K.moved hW.alike hK, hT.warm hW, hI, by rw [hU]; exact (hE.kept hS.2.1).warm hW⟩

theorem s_callV {b ci : Nat} (h : zD M.2.1 pc (.invokevirtual ix) 3 pc') (hl : zML M.1.cls ix M') (cw : zCW M' n) (iw : zIW M') (ho : zOb b ci) (hc : ci < 8 ∧ (zC ci).1 = M'.1.cls) (hst : stk = As.reverse ++ .ref b :: st) (hn : As.length = n) (hw : (st.map fun v => v.category).sum ≤ 8) (hE : zEv d' M' (.ref b :: As) S Q') (hd : d' < d) (k : ∀ (r : Option Value) (S' : ZSt), Q' r S' → zSem d M pc' ls (zpush r st) S' Q) : zSem d M pc ls stk S Q := by
  intro p l e R s m args below meth c D ad cA H locs ls' C hP hS hl'
  obtain ⟨h1, rfl⟩ := h
  subst hst
  have hrun := va_runV (p := p) (e := e) (R := R) (below := below) (meth := meth) (locs := locs) (cells := 0) (slots := 0) (g := F0 m pc ls' (List.map (cv ad) (As.reverse ++ .ref b :: st))) (As := As.map (cv ad)) (rest := st.map (cv ad)) ⟨C.1, C.2.1, C.2.2.1, C.2.2.2.1, fun w hw => C.2.2.2.2.1 w hw args⟩ (hE l D ad cA { frames := d', cells := 0, slots := 0, locals := 36 * d' } rfl rfl (Nat.le_refl _) (Nat.le_refl _)) ⟨z_CB C.2.2.2.2.1 cw hd C.2.2.2.2.2.2.2.1 C.2.2.2.2.2.2.2.2.1 (C.2.2.2.2.1 _ hl args), C.2.2.2.2.1 _ iw.1 args, C.2.2.2.2.1 _ iw.2 args⟩ ⟨zblind D ad cA (.ref b :: As) S, by rw [← hc.2]; exact va_recv C.2.2.2.2.2.2.2.2.2.1 hP (zhcl ci hc.1) (zat_ob ho), z_pre (vs := .ref b :: As) C.2.2.2.2.1 C.2.2.2.2.2.2.2.2.2.1 C.2.2.2.2.2.2.2.2.2.2.1 C.2.2.2.2.2.2.2.2.2.2.2 hP hS⟩ rfl (by rw [List.length_map]; exact hn) hl'.1.1 (by simp [List.map_append, List.map_reverse, cv]) (lv_room (by rw [zcat]; exact hw)) h1 ⟨Nat.zero_le _, Nat.zero_le _⟩
  refine z_go hrun hS (fun r S' H1 locs1 hq hP1 hS1 => ?_)
  have hk := k r S' hq p l e R s m args below meth c D ad cA H1 locs1 ls' C hP1 hS1 hl'
  rw [zpush_map] at hk
  exact hk
theorem s_callS (h : zD M.2.1 pc (.invokestatic ix) 3 pc') (hl : zML M.1.cls ix M') (cw : zCW M' n) (iw : zSW M') (hst : stk = As.reverse ++ st) (hn : As.length = n) (hw : (st.map fun v => v.category).sum ≤ 8) (hE : zEv d' M' As S Q') (hd : d' < d) (k : ∀ (r : Option Value) (S' : ZSt), Q' r S' → zSem d M pc' ls (zpush r st) S' Q) : zSem d M pc ls stk S Q := by
  intro p l e R s m args below meth c D ad cA H locs ls' C hP hS hl'
  obtain ⟨h1, rfl⟩ := h
  subst hst
  have hrun := va_runS (p := p) (e := e) (R := R) (below := below) (meth := meth) (locs := locs) (cells := 0) (slots := 0) (g := F0 m pc ls' (List.map (cv ad) (As.reverse ++ st))) (As := As.map (cv ad)) (rest := st.map (cv ad)) ⟨C.1, C.2.1, C.2.2.1, C.2.2.2.1, fun w hw => C.2.2.2.2.1 w hw args⟩ (hE l D ad cA { frames := d', cells := 0, slots := 0, locals := 36 * d' } rfl rfl (Nat.le_refl _) (Nat.le_refl _)) ⟨z_CB C.2.2.2.2.1 cw hd C.2.2.2.2.2.2.2.1 C.2.2.2.2.2.2.2.2.1 (C.2.2.2.2.1 _ hl args), C.2.2.2.2.1 _ iw args⟩ ⟨zblind D ad cA As S, z_pre (vs := As) C.2.2.2.2.1 C.2.2.2.2.2.2.2.2.2.1 C.2.2.2.2.2.2.2.2.2.2.1 C.2.2.2.2.2.2.2.2.2.2.2 hP hS⟩ rfl (by rw [List.length_map]; exact hn) hl'.1.1 (by simp [List.map_append, List.map_reverse, cv]) (lv_room (by rw [zcat]; exact hw)) h1 ⟨Nat.zero_le _, Nat.zero_le _⟩
  refine z_go hrun hS (fun r S' H1 locs1 hq hP1 hS1 => ?_)
  have hk := k r S' hq p l e R s m args below meth c D ad cA H1 locs1 ls' C hP1 hS1 hl'
  rw [zpush_map] at hk
  exact hk
theorem zgood {w : Cond} (h : w ∈ zW) (hn : zNest w = false) : (w.onTables && w.keeps) = true := by
  have := (List.mem_filter.mp h).2
  unfold zok at this
  rw [hn] at this
  simpa using this
theorem s_callN (h : zD M.2.1 pc (.invokestatic ix) 3 pc') (hl : zMN M.1.cls ix M' host) (cw : zCW M' n) (iw : zSW M') (hst : stk = As.reverse ++ st) (hn : As.length = n) (hw : (st.map fun v => v.category).sum ≤ 8) (hE : zEv d' M' As S Q') (hd : d' < d) (k : ∀ (r : Option Value) (S' : ZSt), Q' r S' → zSem d M pc' ls (zpush r st) S' Q) : zSem d M pc ls stk S Q := by
  intro p l e R s m args below meth c D ad cA H locs ls' C hP hS hl'
  obtain ⟨h1, rfl⟩ := h
  subst hst
  have hrun := va_runSN (p := p) (e := e) (R := R) (below := below) (meth := meth) (locs := locs) (cells := 0) (slots := 0) (g := F0 m pc ls' (List.map (cv ad) (As.reverse ++ st))) (As := As.map (cv ad)) (rest := st.map (cv ad)) ⟨C.1, C.2.1, C.2.2.1, C.2.2.2.1, fun w hw => C.2.2.2.2.1 w hw args⟩ (hE l D ad cA { frames := d', cells := 0, slots := 0, locals := 36 * d' } rfl rfl (Nat.le_refl _) (Nat.le_refl _)) ⟨va_cnB (Ts := zW) n (fun w hw => C.2.2.2.2.1 w hw args) (fun w hw => by rw [List.mem_singleton.mp hw]; exact ⟨cw.1, Or.inl (zgood cw.1 rfl)⟩) rfl rfl rfl (va_Nw.of rfl (C.2.2.2.2.1 _ hl args)) (C.2.2.2.2.1 _ cw.2.1 args) cw.2.2.1 ⟨by show d' + 1 ≤ R.frames; have := C.2.2.2.2.2.2.2.1; omega, by show 8 + (M'.2.2.1 + 11) + 36 * d' ≤ R.locals; have := C.2.2.2.2.2.2.2.2.1; have := cw.2.2.2.1; omega⟩, C.2.2.2.2.1 _ iw args, trivial⟩ ⟨zblind D ad cA As S, z_pre (vs := As) C.2.2.2.2.1 C.2.2.2.2.2.2.2.2.2.1 C.2.2.2.2.2.2.2.2.2.2.1 C.2.2.2.2.2.2.2.2.2.2.2 hP hS⟩ rfl (by rw [List.length_map]; exact hn) hl'.1.1 (by simp [List.map_append, List.map_reverse, cv]) (lv_room (by rw [zcat]; exact hw)) h1 ⟨Nat.zero_le _, Nat.zero_le _⟩
  refine z_go hrun hS (fun r S' H1 locs1 hq hP1 hS1 => ?_)
  have hk := k r S' hq p l e R s m args below meth c D ad cA H1 locs1 ls' C hP1 hS1 hl'
  rw [zpush_map] at hk
  exact hk
theorem s_cV0I {b ci : Nat} {S0 : ZSt} {v : Int32} (h : zD M.2.1 pc (.invokevirtual ix) 3 pc') (hl : zML M.1.cls ix M') (cw : zCW M' 0) (iw : zIW M') (ho : zOb b ci) (hc : ci < 8 ∧ (zC ci).1 = M'.1.cls) (hw : (st.map fun v => v.category).sum ≤ 8) (hE : zEv d' M' (.ref b :: []) S (zX (some (.int v)) S0)) (hd : d' < d) (k : zSem d M pc' ls (.int v :: st) S0 Q) : zSem d M pc ls (.ref b :: st) S Q := s_callV (As := []) (st := st) h hl cw iw ho hc rfl rfl hw hE hd (fun r S' q => by obtain ⟨rfl, rfl⟩ := q; exact k)
theorem s_yV0I {b ci : Nat} {P0 : ZSt → Prop} {v : Int32} (h : zD M.2.1 pc (.invokevirtual ix) 3 pc') (hl : zML M.1.cls ix M') (cw : zCW M' 0) (iw : zIW M') (ho : zOb b ci) (hc : ci < 8 ∧ (zC ci).1 = M'.1.cls) (hw : (st.map fun v => v.category).sum ≤ 8) (hE : zEv d' M' (.ref b :: []) S (zY (some (.int v)) P0)) (hd : d' < d) (k : ∀ S1 : ZSt, P0 S1 → zSem d M pc' ls (.int v :: st) S1 Q) : zSem d M pc ls (.ref b :: st) S Q := s_callV (As := []) (st := st) h hl cw iw ho hc rfl rfl hw hE hd (fun r S' q => by obtain ⟨rfl, q2⟩ := q; exact k S' q2)
theorem s_cV0J {b ci : Nat} {S0 : ZSt} {v : Int64} (h : zD M.2.1 pc (.invokevirtual ix) 3 pc') (hl : zML M.1.cls ix M') (cw : zCW M' 0) (iw : zIW M') (ho : zOb b ci) (hc : ci < 8 ∧ (zC ci).1 = M'.1.cls) (hw : (st.map fun v => v.category).sum ≤ 8) (hE : zEv d' M' (.ref b :: []) S (zX (some (.long v)) S0)) (hd : d' < d) (k : zSem d M pc' ls (.long v :: st) S0 Q) : zSem d M pc ls (.ref b :: st) S Q := s_callV (As := []) (st := st) h hl cw iw ho hc rfl rfl hw hE hd (fun r S' q => by obtain ⟨rfl, rfl⟩ := q; exact k)
theorem s_yV0J {b ci : Nat} {P0 : ZSt → Prop} {v : Int64} (h : zD M.2.1 pc (.invokevirtual ix) 3 pc') (hl : zML M.1.cls ix M') (cw : zCW M' 0) (iw : zIW M') (ho : zOb b ci) (hc : ci < 8 ∧ (zC ci).1 = M'.1.cls) (hw : (st.map fun v => v.category).sum ≤ 8) (hE : zEv d' M' (.ref b :: []) S (zY (some (.long v)) P0)) (hd : d' < d) (k : ∀ S1 : ZSt, P0 S1 → zSem d M pc' ls (.long v :: st) S1 Q) : zSem d M pc ls (.ref b :: st) S Q := s_callV (As := []) (st := st) h hl cw iw ho hc rfl rfl hw hE hd (fun r S' q => by obtain ⟨rfl, q2⟩ := q; exact k S' q2)
theorem s_cV0V {b ci : Nat} {S0 : ZSt}  (h : zD M.2.1 pc (.invokevirtual ix) 3 pc') (hl : zML M.1.cls ix M') (cw : zCW M' 0) (iw : zIW M') (ho : zOb b ci) (hc : ci < 8 ∧ (zC ci).1 = M'.1.cls) (hw : (st.map fun v => v.category).sum ≤ 8) (hE : zEv d' M' (.ref b :: []) S (zX (none) S0)) (hd : d' < d) (k : zSem d M pc' ls (st) S0 Q) : zSem d M pc ls (.ref b :: st) S Q := s_callV (As := []) (st := st) h hl cw iw ho hc rfl rfl hw hE hd (fun r S' q => by obtain ⟨rfl, rfl⟩ := q; exact k)
theorem s_yV0V {b ci : Nat} {P0 : ZSt → Prop}  (h : zD M.2.1 pc (.invokevirtual ix) 3 pc') (hl : zML M.1.cls ix M') (cw : zCW M' 0) (iw : zIW M') (ho : zOb b ci) (hc : ci < 8 ∧ (zC ci).1 = M'.1.cls) (hw : (st.map fun v => v.category).sum ≤ 8) (hE : zEv d' M' (.ref b :: []) S (zY (none) P0)) (hd : d' < d) (k : ∀ S1 : ZSt, P0 S1 → zSem d M pc' ls (st) S1 Q) : zSem d M pc ls (.ref b :: st) S Q := s_callV (As := []) (st := st) h hl cw iw ho hc rfl rfl hw hE hd (fun r S' q => by obtain ⟨rfl, q2⟩ := q; exact k S' q2)
theorem s_cV1I {b ci : Nat} {x1 : Value} {S0 : ZSt} {v : Int32} (h : zD M.2.1 pc (.invokevirtual ix) 3 pc') (hl : zML M.1.cls ix M') (cw : zCW M' 1) (iw : zIW M') (ho : zOb b ci) (hc : ci < 8 ∧ (zC ci).1 = M'.1.cls) (hw : (st.map fun v => v.category).sum ≤ 8) (hE : zEv d' M' (.ref b :: [x1]) S (zX (some (.int v)) S0)) (hd : d' < d) (k : zSem d M pc' ls (.int v :: st) S0 Q) : zSem d M pc ls (x1 :: .ref b :: st) S Q := s_callV (As := [x1]) (st := st) h hl cw iw ho hc rfl rfl hw hE hd (fun r S' q => by obtain ⟨rfl, rfl⟩ := q; exact k)
theorem s_yV1I {b ci : Nat} {x1 : Value} {P0 : ZSt → Prop} {v : Int32} (h : zD M.2.1 pc (.invokevirtual ix) 3 pc') (hl : zML M.1.cls ix M') (cw : zCW M' 1) (iw : zIW M') (ho : zOb b ci) (hc : ci < 8 ∧ (zC ci).1 = M'.1.cls) (hw : (st.map fun v => v.category).sum ≤ 8) (hE : zEv d' M' (.ref b :: [x1]) S (zY (some (.int v)) P0)) (hd : d' < d) (k : ∀ S1 : ZSt, P0 S1 → zSem d M pc' ls (.int v :: st) S1 Q) : zSem d M pc ls (x1 :: .ref b :: st) S Q := s_callV (As := [x1]) (st := st) h hl cw iw ho hc rfl rfl hw hE hd (fun r S' q => by obtain ⟨rfl, q2⟩ := q; exact k S' q2)
theorem s_cV1J {b ci : Nat} {x1 : Value} {S0 : ZSt} {v : Int64} (h : zD M.2.1 pc (.invokevirtual ix) 3 pc') (hl : zML M.1.cls ix M') (cw : zCW M' 1) (iw : zIW M') (ho : zOb b ci) (hc : ci < 8 ∧ (zC ci).1 = M'.1.cls) (hw : (st.map fun v => v.category).sum ≤ 8) (hE : zEv d' M' (.ref b :: [x1]) S (zX (some (.long v)) S0)) (hd : d' < d) (k : zSem d M pc' ls (.long v :: st) S0 Q) : zSem d M pc ls (x1 :: .ref b :: st) S Q := s_callV (As := [x1]) (st := st) h hl cw iw ho hc rfl rfl hw hE hd (fun r S' q => by obtain ⟨rfl, rfl⟩ := q; exact k)
theorem s_yV1J {b ci : Nat} {x1 : Value} {P0 : ZSt → Prop} {v : Int64} (h : zD M.2.1 pc (.invokevirtual ix) 3 pc') (hl : zML M.1.cls ix M') (cw : zCW M' 1) (iw : zIW M') (ho : zOb b ci) (hc : ci < 8 ∧ (zC ci).1 = M'.1.cls) (hw : (st.map fun v => v.category).sum ≤ 8) (hE : zEv d' M' (.ref b :: [x1]) S (zY (some (.long v)) P0)) (hd : d' < d) (k : ∀ S1 : ZSt, P0 S1 → zSem d M pc' ls (.long v :: st) S1 Q) : zSem d M pc ls (x1 :: .ref b :: st) S Q := s_callV (As := [x1]) (st := st) h hl cw iw ho hc rfl rfl hw hE hd (fun r S' q => by obtain ⟨rfl, q2⟩ := q; exact k S' q2)
theorem s_cV1V {b ci : Nat} {x1 : Value} {S0 : ZSt}  (h : zD M.2.1 pc (.invokevirtual ix) 3 pc') (hl : zML M.1.cls ix M') (cw : zCW M' 1) (iw : zIW M') (ho : zOb b ci) (hc : ci < 8 ∧ (zC ci).1 = M'.1.cls) (hw : (st.map fun v => v.category).sum ≤ 8) (hE : zEv d' M' (.ref b :: [x1]) S (zX (none) S0)) (hd : d' < d) (k : zSem d M pc' ls (st) S0 Q) : zSem d M pc ls (x1 :: .ref b :: st) S Q := s_callV (As := [x1]) (st := st) h hl cw iw ho hc rfl rfl hw hE hd (fun r S' q => by obtain ⟨rfl, rfl⟩ := q; exact k)
theorem s_yV1V {b ci : Nat} {x1 : Value} {P0 : ZSt → Prop}  (h : zD M.2.1 pc (.invokevirtual ix) 3 pc') (hl : zML M.1.cls ix M') (cw : zCW M' 1) (iw : zIW M') (ho : zOb b ci) (hc : ci < 8 ∧ (zC ci).1 = M'.1.cls) (hw : (st.map fun v => v.category).sum ≤ 8) (hE : zEv d' M' (.ref b :: [x1]) S (zY (none) P0)) (hd : d' < d) (k : ∀ S1 : ZSt, P0 S1 → zSem d M pc' ls (st) S1 Q) : zSem d M pc ls (x1 :: .ref b :: st) S Q := s_callV (As := [x1]) (st := st) h hl cw iw ho hc rfl rfl hw hE hd (fun r S' q => by obtain ⟨rfl, q2⟩ := q; exact k S' q2)
theorem s_cV2I {b ci : Nat} {x1 x2 : Value} {S0 : ZSt} {v : Int32} (h : zD M.2.1 pc (.invokevirtual ix) 3 pc') (hl : zML M.1.cls ix M') (cw : zCW M' 2) (iw : zIW M') (ho : zOb b ci) (hc : ci < 8 ∧ (zC ci).1 = M'.1.cls) (hw : (st.map fun v => v.category).sum ≤ 8) (hE : zEv d' M' (.ref b :: [x1, x2]) S (zX (some (.int v)) S0)) (hd : d' < d) (k : zSem d M pc' ls (.int v :: st) S0 Q) : zSem d M pc ls (x2 :: x1 :: .ref b :: st) S Q := s_callV (As := [x1, x2]) (st := st) h hl cw iw ho hc rfl rfl hw hE hd (fun r S' q => by obtain ⟨rfl, rfl⟩ := q; exact k)
theorem s_yV2I {b ci : Nat} {x1 x2 : Value} {P0 : ZSt → Prop} {v : Int32} (h : zD M.2.1 pc (.invokevirtual ix) 3 pc') (hl : zML M.1.cls ix M') (cw : zCW M' 2) (iw : zIW M') (ho : zOb b ci) (hc : ci < 8 ∧ (zC ci).1 = M'.1.cls) (hw : (st.map fun v => v.category).sum ≤ 8) (hE : zEv d' M' (.ref b :: [x1, x2]) S (zY (some (.int v)) P0)) (hd : d' < d) (k : ∀ S1 : ZSt, P0 S1 → zSem d M pc' ls (.int v :: st) S1 Q) : zSem d M pc ls (x2 :: x1 :: .ref b :: st) S Q := s_callV (As := [x1, x2]) (st := st) h hl cw iw ho hc rfl rfl hw hE hd (fun r S' q => by obtain ⟨rfl, q2⟩ := q; exact k S' q2)
theorem s_cV2J {b ci : Nat} {x1 x2 : Value} {S0 : ZSt} {v : Int64} (h : zD M.2.1 pc (.invokevirtual ix) 3 pc') (hl : zML M.1.cls ix M') (cw : zCW M' 2) (iw : zIW M') (ho : zOb b ci) (hc : ci < 8 ∧ (zC ci).1 = M'.1.cls) (hw : (st.map fun v => v.category).sum ≤ 8) (hE : zEv d' M' (.ref b :: [x1, x2]) S (zX (some (.long v)) S0)) (hd : d' < d) (k : zSem d M pc' ls (.long v :: st) S0 Q) : zSem d M pc ls (x2 :: x1 :: .ref b :: st) S Q := s_callV (As := [x1, x2]) (st := st) h hl cw iw ho hc rfl rfl hw hE hd (fun r S' q => by obtain ⟨rfl, rfl⟩ := q; exact k)
theorem s_yV2J {b ci : Nat} {x1 x2 : Value} {P0 : ZSt → Prop} {v : Int64} (h : zD M.2.1 pc (.invokevirtual ix) 3 pc') (hl : zML M.1.cls ix M') (cw : zCW M' 2) (iw : zIW M') (ho : zOb b ci) (hc : ci < 8 ∧ (zC ci).1 = M'.1.cls) (hw : (st.map fun v => v.category).sum ≤ 8) (hE : zEv d' M' (.ref b :: [x1, x2]) S (zY (some (.long v)) P0)) (hd : d' < d) (k : ∀ S1 : ZSt, P0 S1 → zSem d M pc' ls (.long v :: st) S1 Q) : zSem d M pc ls (x2 :: x1 :: .ref b :: st) S Q := s_callV (As := [x1, x2]) (st := st) h hl cw iw ho hc rfl rfl hw hE hd (fun r S' q => by obtain ⟨rfl, q2⟩ := q; exact k S' q2)
theorem s_cV2V {b ci : Nat} {x1 x2 : Value} {S0 : ZSt}  (h : zD M.2.1 pc (.invokevirtual ix) 3 pc') (hl : zML M.1.cls ix M') (cw : zCW M' 2) (iw : zIW M') (ho : zOb b ci) (hc : ci < 8 ∧ (zC ci).1 = M'.1.cls) (hw : (st.map fun v => v.category).sum ≤ 8) (hE : zEv d' M' (.ref b :: [x1, x2]) S (zX (none) S0)) (hd : d' < d) (k : zSem d M pc' ls (st) S0 Q) : zSem d M pc ls (x2 :: x1 :: .ref b :: st) S Q := s_callV (As := [x1, x2]) (st := st) h hl cw iw ho hc rfl rfl hw hE hd (fun r S' q => by obtain ⟨rfl, rfl⟩ := q; exact k)
theorem s_yV2V {b ci : Nat} {x1 x2 : Value} {P0 : ZSt → Prop}  (h : zD M.2.1 pc (.invokevirtual ix) 3 pc') (hl : zML M.1.cls ix M') (cw : zCW M' 2) (iw : zIW M') (ho : zOb b ci) (hc : ci < 8 ∧ (zC ci).1 = M'.1.cls) (hw : (st.map fun v => v.category).sum ≤ 8) (hE : zEv d' M' (.ref b :: [x1, x2]) S (zY (none) P0)) (hd : d' < d) (k : ∀ S1 : ZSt, P0 S1 → zSem d M pc' ls (st) S1 Q) : zSem d M pc ls (x2 :: x1 :: .ref b :: st) S Q := s_callV (As := [x1, x2]) (st := st) h hl cw iw ho hc rfl rfl hw hE hd (fun r S' q => by obtain ⟨rfl, q2⟩ := q; exact k S' q2)
theorem s_cV3I {b ci : Nat} {x1 x2 x3 : Value} {S0 : ZSt} {v : Int32} (h : zD M.2.1 pc (.invokevirtual ix) 3 pc') (hl : zML M.1.cls ix M') (cw : zCW M' 3) (iw : zIW M') (ho : zOb b ci) (hc : ci < 8 ∧ (zC ci).1 = M'.1.cls) (hw : (st.map fun v => v.category).sum ≤ 8) (hE : zEv d' M' (.ref b :: [x1, x2, x3]) S (zX (some (.int v)) S0)) (hd : d' < d) (k : zSem d M pc' ls (.int v :: st) S0 Q) : zSem d M pc ls (x3 :: x2 :: x1 :: .ref b :: st) S Q := s_callV (As := [x1, x2, x3]) (st := st) h hl cw iw ho hc rfl rfl hw hE hd (fun r S' q => by obtain ⟨rfl, rfl⟩ := q; exact k)
theorem s_yV3I {b ci : Nat} {x1 x2 x3 : Value} {P0 : ZSt → Prop} {v : Int32} (h : zD M.2.1 pc (.invokevirtual ix) 3 pc') (hl : zML M.1.cls ix M') (cw : zCW M' 3) (iw : zIW M') (ho : zOb b ci) (hc : ci < 8 ∧ (zC ci).1 = M'.1.cls) (hw : (st.map fun v => v.category).sum ≤ 8) (hE : zEv d' M' (.ref b :: [x1, x2, x3]) S (zY (some (.int v)) P0)) (hd : d' < d) (k : ∀ S1 : ZSt, P0 S1 → zSem d M pc' ls (.int v :: st) S1 Q) : zSem d M pc ls (x3 :: x2 :: x1 :: .ref b :: st) S Q := s_callV (As := [x1, x2, x3]) (st := st) h hl cw iw ho hc rfl rfl hw hE hd (fun r S' q => by obtain ⟨rfl, q2⟩ := q; exact k S' q2)
theorem s_cV3J {b ci : Nat} {x1 x2 x3 : Value} {S0 : ZSt} {v : Int64} (h : zD M.2.1 pc (.invokevirtual ix) 3 pc') (hl : zML M.1.cls ix M') (cw : zCW M' 3) (iw : zIW M') (ho : zOb b ci) (hc : ci < 8 ∧ (zC ci).1 = M'.1.cls) (hw : (st.map fun v => v.category).sum ≤ 8) (hE : zEv d' M' (.ref b :: [x1, x2, x3]) S (zX (some (.long v)) S0)) (hd : d' < d) (k : zSem d M pc' ls (.long v :: st) S0 Q) : zSem d M pc ls (x3 :: x2 :: x1 :: .ref b :: st) S Q := s_callV (As := [x1, x2, x3]) (st := st) h hl cw iw ho hc rfl rfl hw hE hd (fun r S' q => by obtain ⟨rfl, rfl⟩ := q; exact k)
theorem s_yV3J {b ci : Nat} {x1 x2 x3 : Value} {P0 : ZSt → Prop} {v : Int64} (h : zD M.2.1 pc (.invokevirtual ix) 3 pc') (hl : zML M.1.cls ix M') (cw : zCW M' 3) (iw : zIW M') (ho : zOb b ci) (hc : ci < 8 ∧ (zC ci).1 = M'.1.cls) (hw : (st.map fun v => v.category).sum ≤ 8) (hE : zEv d' M' (.ref b :: [x1, x2, x3]) S (zY (some (.long v)) P0)) (hd : d' < d) (k : ∀ S1 : ZSt, P0 S1 → zSem d M pc' ls (.long v :: st) S1 Q) : zSem d M pc ls (x3 :: x2 :: x1 :: .ref b :: st) S Q := s_callV (As := [x1, x2, x3]) (st := st) h hl cw iw ho hc rfl rfl hw hE hd (fun r S' q => by obtain ⟨rfl, q2⟩ := q; exact k S' q2)
theorem s_cV3V {b ci : Nat} {x1 x2 x3 : Value} {S0 : ZSt}  (h : zD M.2.1 pc (.invokevirtual ix) 3 pc') (hl : zML M.1.cls ix M') (cw : zCW M' 3) (iw : zIW M') (ho : zOb b ci) (hc : ci < 8 ∧ (zC ci).1 = M'.1.cls) (hw : (st.map fun v => v.category).sum ≤ 8) (hE : zEv d' M' (.ref b :: [x1, x2, x3]) S (zX (none) S0)) (hd : d' < d) (k : zSem d M pc' ls (st) S0 Q) : zSem d M pc ls (x3 :: x2 :: x1 :: .ref b :: st) S Q := s_callV (As := [x1, x2, x3]) (st := st) h hl cw iw ho hc rfl rfl hw hE hd (fun r S' q => by obtain ⟨rfl, rfl⟩ := q; exact k)
theorem s_yV3V {b ci : Nat} {x1 x2 x3 : Value} {P0 : ZSt → Prop}  (h : zD M.2.1 pc (.invokevirtual ix) 3 pc') (hl : zML M.1.cls ix M') (cw : zCW M' 3) (iw : zIW M') (ho : zOb b ci) (hc : ci < 8 ∧ (zC ci).1 = M'.1.cls) (hw : (st.map fun v => v.category).sum ≤ 8) (hE : zEv d' M' (.ref b :: [x1, x2, x3]) S (zY (none) P0)) (hd : d' < d) (k : ∀ S1 : ZSt, P0 S1 → zSem d M pc' ls (st) S1 Q) : zSem d M pc ls (x3 :: x2 :: x1 :: .ref b :: st) S Q := s_callV (As := [x1, x2, x3]) (st := st) h hl cw iw ho hc rfl rfl hw hE hd (fun r S' q => by obtain ⟨rfl, q2⟩ := q; exact k S' q2)
theorem s_cV4I {b ci : Nat} {x1 x2 x3 x4 : Value} {S0 : ZSt} {v : Int32} (h : zD M.2.1 pc (.invokevirtual ix) 3 pc') (hl : zML M.1.cls ix M') (cw : zCW M' 4) (iw : zIW M') (ho : zOb b ci) (hc : ci < 8 ∧ (zC ci).1 = M'.1.cls) (hw : (st.map fun v => v.category).sum ≤ 8) (hE : zEv d' M' (.ref b :: [x1, x2, x3, x4]) S (zX (some (.int v)) S0)) (hd : d' < d) (k : zSem d M pc' ls (.int v :: st) S0 Q) : zSem d M pc ls (x4 :: x3 :: x2 :: x1 :: .ref b :: st) S Q := s_callV (As := [x1, x2, x3, x4]) (st := st) h hl cw iw ho hc rfl rfl hw hE hd (fun r S' q => by obtain ⟨rfl, rfl⟩ := q; exact k)
theorem s_yV4I {b ci : Nat} {x1 x2 x3 x4 : Value} {P0 : ZSt → Prop} {v : Int32} (h : zD M.2.1 pc (.invokevirtual ix) 3 pc') (hl : zML M.1.cls ix M') (cw : zCW M' 4) (iw : zIW M') (ho : zOb b ci) (hc : ci < 8 ∧ (zC ci).1 = M'.1.cls) (hw : (st.map fun v => v.category).sum ≤ 8) (hE : zEv d' M' (.ref b :: [x1, x2, x3, x4]) S (zY (some (.int v)) P0)) (hd : d' < d) (k : ∀ S1 : ZSt, P0 S1 → zSem d M pc' ls (.int v :: st) S1 Q) : zSem d M pc ls (x4 :: x3 :: x2 :: x1 :: .ref b :: st) S Q := s_callV (As := [x1, x2, x3, x4]) (st := st) h hl cw iw ho hc rfl rfl hw hE hd (fun r S' q => by obtain ⟨rfl, q2⟩ := q; exact k S' q2)
theorem s_cV4J {b ci : Nat} {x1 x2 x3 x4 : Value} {S0 : ZSt} {v : Int64} (h : zD M.2.1 pc (.invokevirtual ix) 3 pc') (hl : zML M.1.cls ix M') (cw : zCW M' 4) (iw : zIW M') (ho : zOb b ci) (hc : ci < 8 ∧ (zC ci).1 = M'.1.cls) (hw : (st.map fun v => v.category).sum ≤ 8) (hE : zEv d' M' (.ref b :: [x1, x2, x3, x4]) S (zX (some (.long v)) S0)) (hd : d' < d) (k : zSem d M pc' ls (.long v :: st) S0 Q) : zSem d M pc ls (x4 :: x3 :: x2 :: x1 :: .ref b :: st) S Q := s_callV (As := [x1, x2, x3, x4]) (st := st) h hl cw iw ho hc rfl rfl hw hE hd (fun r S' q => by obtain ⟨rfl, rfl⟩ := q; exact k)
theorem s_yV4J {b ci : Nat} {x1 x2 x3 x4 : Value} {P0 : ZSt → Prop} {v : Int64} (h : zD M.2.1 pc (.invokevirtual ix) 3 pc') (hl : zML M.1.cls ix M') (cw : zCW M' 4) (iw : zIW M') (ho : zOb b ci) (hc : ci < 8 ∧ (zC ci).1 = M'.1.cls) (hw : (st.map fun v => v.category).sum ≤ 8) (hE : zEv d' M' (.ref b :: [x1, x2, x3, x4]) S (zY (some (.long v)) P0)) (hd : d' < d) (k : ∀ S1 : ZSt, P0 S1 → zSem d M pc' ls (.long v :: st) S1 Q) : zSem d M pc ls (x4 :: x3 :: x2 :: x1 :: .ref b :: st) S Q := s_callV (As := [x1, x2, x3, x4]) (st := st) h hl cw iw ho hc rfl rfl hw hE hd (fun r S' q => by obtain ⟨rfl, q2⟩ := q; exact k S' q2)
theorem s_cV4V {b ci : Nat} {x1 x2 x3 x4 : Value} {S0 : ZSt}  (h : zD M.2.1 pc (.invokevirtual ix) 3 pc') (hl : zML M.1.cls ix M') (cw : zCW M' 4) (iw : zIW M') (ho : zOb b ci) (hc : ci < 8 ∧ (zC ci).1 = M'.1.cls) (hw : (st.map fun v => v.category).sum ≤ 8) (hE : zEv d' M' (.ref b :: [x1, x2, x3, x4]) S (zX (none) S0)) (hd : d' < d) (k : zSem d M pc' ls (st) S0 Q) : zSem d M pc ls (x4 :: x3 :: x2 :: x1 :: .ref b :: st) S Q := s_callV (As := [x1, x2, x3, x4]) (st := st) h hl cw iw ho hc rfl rfl hw hE hd (fun r S' q => by obtain ⟨rfl, rfl⟩ := q; exact k)
theorem s_yV4V {b ci : Nat} {x1 x2 x3 x4 : Value} {P0 : ZSt → Prop}  (h : zD M.2.1 pc (.invokevirtual ix) 3 pc') (hl : zML M.1.cls ix M') (cw : zCW M' 4) (iw : zIW M') (ho : zOb b ci) (hc : ci < 8 ∧ (zC ci).1 = M'.1.cls) (hw : (st.map fun v => v.category).sum ≤ 8) (hE : zEv d' M' (.ref b :: [x1, x2, x3, x4]) S (zY (none) P0)) (hd : d' < d) (k : ∀ S1 : ZSt, P0 S1 → zSem d M pc' ls (st) S1 Q) : zSem d M pc ls (x4 :: x3 :: x2 :: x1 :: .ref b :: st) S Q := s_callV (As := [x1, x2, x3, x4]) (st := st) h hl cw iw ho hc rfl rfl hw hE hd (fun r S' q => by obtain ⟨rfl, q2⟩ := q; exact k S' q2)
theorem s_cV5I {b ci : Nat} {x1 x2 x3 x4 x5 : Value} {S0 : ZSt} {v : Int32} (h : zD M.2.1 pc (.invokevirtual ix) 3 pc') (hl : zML M.1.cls ix M') (cw : zCW M' 5) (iw : zIW M') (ho : zOb b ci) (hc : ci < 8 ∧ (zC ci).1 = M'.1.cls) (hw : (st.map fun v => v.category).sum ≤ 8) (hE : zEv d' M' (.ref b :: [x1, x2, x3, x4, x5]) S (zX (some (.int v)) S0)) (hd : d' < d) (k : zSem d M pc' ls (.int v :: st) S0 Q) : zSem d M pc ls (x5 :: x4 :: x3 :: x2 :: x1 :: .ref b :: st) S Q := s_callV (As := [x1, x2, x3, x4, x5]) (st := st) h hl cw iw ho hc rfl rfl hw hE hd (fun r S' q => by obtain ⟨rfl, rfl⟩ := q; exact k)
theorem s_yV5I {b ci : Nat} {x1 x2 x3 x4 x5 : Value} {P0 : ZSt → Prop} {v : Int32} (h : zD M.2.1 pc (.invokevirtual ix) 3 pc') (hl : zML M.1.cls ix M') (cw : zCW M' 5) (iw : zIW M') (ho : zOb b ci) (hc : ci < 8 ∧ (zC ci).1 = M'.1.cls) (hw : (st.map fun v => v.category).sum ≤ 8) (hE : zEv d' M' (.ref b :: [x1, x2, x3, x4, x5]) S (zY (some (.int v)) P0)) (hd : d' < d) (k : ∀ S1 : ZSt, P0 S1 → zSem d M pc' ls (.int v :: st) S1 Q) : zSem d M pc ls (x5 :: x4 :: x3 :: x2 :: x1 :: .ref b :: st) S Q := s_callV (As := [x1, x2, x3, x4, x5]) (st := st) h hl cw iw ho hc rfl rfl hw hE hd (fun r S' q => by obtain ⟨rfl, q2⟩ := q; exact k S' q2)
theorem s_cV5J {b ci : Nat} {x1 x2 x3 x4 x5 : Value} {S0 : ZSt} {v : Int64} (h : zD M.2.1 pc (.invokevirtual ix) 3 pc') (hl : zML M.1.cls ix M') (cw : zCW M' 5) (iw : zIW M') (ho : zOb b ci) (hc : ci < 8 ∧ (zC ci).1 = M'.1.cls) (hw : (st.map fun v => v.category).sum ≤ 8) (hE : zEv d' M' (.ref b :: [x1, x2, x3, x4, x5]) S (zX (some (.long v)) S0)) (hd : d' < d) (k : zSem d M pc' ls (.long v :: st) S0 Q) : zSem d M pc ls (x5 :: x4 :: x3 :: x2 :: x1 :: .ref b :: st) S Q := s_callV (As := [x1, x2, x3, x4, x5]) (st := st) h hl cw iw ho hc rfl rfl hw hE hd (fun r S' q => by obtain ⟨rfl, rfl⟩ := q; exact k)
theorem s_yV5J {b ci : Nat} {x1 x2 x3 x4 x5 : Value} {P0 : ZSt → Prop} {v : Int64} (h : zD M.2.1 pc (.invokevirtual ix) 3 pc') (hl : zML M.1.cls ix M') (cw : zCW M' 5) (iw : zIW M') (ho : zOb b ci) (hc : ci < 8 ∧ (zC ci).1 = M'.1.cls) (hw : (st.map fun v => v.category).sum ≤ 8) (hE : zEv d' M' (.ref b :: [x1, x2, x3, x4, x5]) S (zY (some (.long v)) P0)) (hd : d' < d) (k : ∀ S1 : ZSt, P0 S1 → zSem d M pc' ls (.long v :: st) S1 Q) : zSem d M pc ls (x5 :: x4 :: x3 :: x2 :: x1 :: .ref b :: st) S Q := s_callV (As := [x1, x2, x3, x4, x5]) (st := st) h hl cw iw ho hc rfl rfl hw hE hd (fun r S' q => by obtain ⟨rfl, q2⟩ := q; exact k S' q2)
theorem s_cV5V {b ci : Nat} {x1 x2 x3 x4 x5 : Value} {S0 : ZSt}  (h : zD M.2.1 pc (.invokevirtual ix) 3 pc') (hl : zML M.1.cls ix M') (cw : zCW M' 5) (iw : zIW M') (ho : zOb b ci) (hc : ci < 8 ∧ (zC ci).1 = M'.1.cls) (hw : (st.map fun v => v.category).sum ≤ 8) (hE : zEv d' M' (.ref b :: [x1, x2, x3, x4, x5]) S (zX (none) S0)) (hd : d' < d) (k : zSem d M pc' ls (st) S0 Q) : zSem d M pc ls (x5 :: x4 :: x3 :: x2 :: x1 :: .ref b :: st) S Q := s_callV (As := [x1, x2, x3, x4, x5]) (st := st) h hl cw iw ho hc rfl rfl hw hE hd (fun r S' q => by obtain ⟨rfl, rfl⟩ := q; exact k)
theorem s_yV5V {b ci : Nat} {x1 x2 x3 x4 x5 : Value} {P0 : ZSt → Prop}  (h : zD M.2.1 pc (.invokevirtual ix) 3 pc') (hl : zML M.1.cls ix M') (cw : zCW M' 5) (iw : zIW M') (ho : zOb b ci) (hc : ci < 8 ∧ (zC ci).1 = M'.1.cls) (hw : (st.map fun v => v.category).sum ≤ 8) (hE : zEv d' M' (.ref b :: [x1, x2, x3, x4, x5]) S (zY (none) P0)) (hd : d' < d) (k : ∀ S1 : ZSt, P0 S1 → zSem d M pc' ls (st) S1 Q) : zSem d M pc ls (x5 :: x4 :: x3 :: x2 :: x1 :: .ref b :: st) S Q := s_callV (As := [x1, x2, x3, x4, x5]) (st := st) h hl cw iw ho hc rfl rfl hw hE hd (fun r S' q => by obtain ⟨rfl, q2⟩ := q; exact k S' q2)
theorem s_cV6I {b ci : Nat} {x1 x2 x3 x4 x5 x6 : Value} {S0 : ZSt} {v : Int32} (h : zD M.2.1 pc (.invokevirtual ix) 3 pc') (hl : zML M.1.cls ix M') (cw : zCW M' 6) (iw : zIW M') (ho : zOb b ci) (hc : ci < 8 ∧ (zC ci).1 = M'.1.cls) (hw : (st.map fun v => v.category).sum ≤ 8) (hE : zEv d' M' (.ref b :: [x1, x2, x3, x4, x5, x6]) S (zX (some (.int v)) S0)) (hd : d' < d) (k : zSem d M pc' ls (.int v :: st) S0 Q) : zSem d M pc ls (x6 :: x5 :: x4 :: x3 :: x2 :: x1 :: .ref b :: st) S Q := s_callV (As := [x1, x2, x3, x4, x5, x6]) (st := st) h hl cw iw ho hc rfl rfl hw hE hd (fun r S' q => by obtain ⟨rfl, rfl⟩ := q; exact k)
theorem s_yV6I {b ci : Nat} {x1 x2 x3 x4 x5 x6 : Value} {P0 : ZSt → Prop} {v : Int32} (h : zD M.2.1 pc (.invokevirtual ix) 3 pc') (hl : zML M.1.cls ix M') (cw : zCW M' 6) (iw : zIW M') (ho : zOb b ci) (hc : ci < 8 ∧ (zC ci).1 = M'.1.cls) (hw : (st.map fun v => v.category).sum ≤ 8) (hE : zEv d' M' (.ref b :: [x1, x2, x3, x4, x5, x6]) S (zY (some (.int v)) P0)) (hd : d' < d) (k : ∀ S1 : ZSt, P0 S1 → zSem d M pc' ls (.int v :: st) S1 Q) : zSem d M pc ls (x6 :: x5 :: x4 :: x3 :: x2 :: x1 :: .ref b :: st) S Q := s_callV (As := [x1, x2, x3, x4, x5, x6]) (st := st) h hl cw iw ho hc rfl rfl hw hE hd (fun r S' q => by obtain ⟨rfl, q2⟩ := q; exact k S' q2)
theorem s_cV6J {b ci : Nat} {x1 x2 x3 x4 x5 x6 : Value} {S0 : ZSt} {v : Int64} (h : zD M.2.1 pc (.invokevirtual ix) 3 pc') (hl : zML M.1.cls ix M') (cw : zCW M' 6) (iw : zIW M') (ho : zOb b ci) (hc : ci < 8 ∧ (zC ci).1 = M'.1.cls) (hw : (st.map fun v => v.category).sum ≤ 8) (hE : zEv d' M' (.ref b :: [x1, x2, x3, x4, x5, x6]) S (zX (some (.long v)) S0)) (hd : d' < d) (k : zSem d M pc' ls (.long v :: st) S0 Q) : zSem d M pc ls (x6 :: x5 :: x4 :: x3 :: x2 :: x1 :: .ref b :: st) S Q := s_callV (As := [x1, x2, x3, x4, x5, x6]) (st := st) h hl cw iw ho hc rfl rfl hw hE hd (fun r S' q => by obtain ⟨rfl, rfl⟩ := q; exact k)
theorem s_yV6J {b ci : Nat} {x1 x2 x3 x4 x5 x6 : Value} {P0 : ZSt → Prop} {v : Int64} (h : zD M.2.1 pc (.invokevirtual ix) 3 pc') (hl : zML M.1.cls ix M') (cw : zCW M' 6) (iw : zIW M') (ho : zOb b ci) (hc : ci < 8 ∧ (zC ci).1 = M'.1.cls) (hw : (st.map fun v => v.category).sum ≤ 8) (hE : zEv d' M' (.ref b :: [x1, x2, x3, x4, x5, x6]) S (zY (some (.long v)) P0)) (hd : d' < d) (k : ∀ S1 : ZSt, P0 S1 → zSem d M pc' ls (.long v :: st) S1 Q) : zSem d M pc ls (x6 :: x5 :: x4 :: x3 :: x2 :: x1 :: .ref b :: st) S Q := s_callV (As := [x1, x2, x3, x4, x5, x6]) (st := st) h hl cw iw ho hc rfl rfl hw hE hd (fun r S' q => by obtain ⟨rfl, q2⟩ := q; exact k S' q2)
theorem s_cV6V {b ci : Nat} {x1 x2 x3 x4 x5 x6 : Value} {S0 : ZSt}  (h : zD M.2.1 pc (.invokevirtual ix) 3 pc') (hl : zML M.1.cls ix M') (cw : zCW M' 6) (iw : zIW M') (ho : zOb b ci) (hc : ci < 8 ∧ (zC ci).1 = M'.1.cls) (hw : (st.map fun v => v.category).sum ≤ 8) (hE : zEv d' M' (.ref b :: [x1, x2, x3, x4, x5, x6]) S (zX (none) S0)) (hd : d' < d) (k : zSem d M pc' ls (st) S0 Q) : zSem d M pc ls (x6 :: x5 :: x4 :: x3 :: x2 :: x1 :: .ref b :: st) S Q := s_callV (As := [x1, x2, x3, x4, x5, x6]) (st := st) h hl cw iw ho hc rfl rfl hw hE hd (fun r S' q => by obtain ⟨rfl, rfl⟩ := q; exact k)
theorem s_yV6V {b ci : Nat} {x1 x2 x3 x4 x5 x6 : Value} {P0 : ZSt → Prop}  (h : zD M.2.1 pc (.invokevirtual ix) 3 pc') (hl : zML M.1.cls ix M') (cw : zCW M' 6) (iw : zIW M') (ho : zOb b ci) (hc : ci < 8 ∧ (zC ci).1 = M'.1.cls) (hw : (st.map fun v => v.category).sum ≤ 8) (hE : zEv d' M' (.ref b :: [x1, x2, x3, x4, x5, x6]) S (zY (none) P0)) (hd : d' < d) (k : ∀ S1 : ZSt, P0 S1 → zSem d M pc' ls (st) S1 Q) : zSem d M pc ls (x6 :: x5 :: x4 :: x3 :: x2 :: x1 :: .ref b :: st) S Q := s_callV (As := [x1, x2, x3, x4, x5, x6]) (st := st) h hl cw iw ho hc rfl rfl hw hE hd (fun r S' q => by obtain ⟨rfl, q2⟩ := q; exact k S' q2)
theorem s_cS1I {x1 : Value} {S0 : ZSt} {v : Int32} (h : zD M.2.1 pc (.invokestatic ix) 3 pc') (hl : zML M.1.cls ix M') (cw : zCW M' 1) (iw : zSW M') (hw : (st.map fun v => v.category).sum ≤ 8) (hE : zEv d' M' ([x1]) S (zX (some (.int v)) S0)) (hd : d' < d) (k : zSem d M pc' ls (.int v :: st) S0 Q) : zSem d M pc ls (x1 :: st) S Q := s_callS (As := [x1]) (st := st) h hl cw iw rfl rfl hw hE hd (fun r S' q => by obtain ⟨rfl, rfl⟩ := q; exact k)
theorem s_yS1I {x1 : Value} {P0 : ZSt → Prop} {v : Int32} (h : zD M.2.1 pc (.invokestatic ix) 3 pc') (hl : zML M.1.cls ix M') (cw : zCW M' 1) (iw : zSW M') (hw : (st.map fun v => v.category).sum ≤ 8) (hE : zEv d' M' ([x1]) S (zY (some (.int v)) P0)) (hd : d' < d) (k : ∀ S1 : ZSt, P0 S1 → zSem d M pc' ls (.int v :: st) S1 Q) : zSem d M pc ls (x1 :: st) S Q := s_callS (As := [x1]) (st := st) h hl cw iw rfl rfl hw hE hd (fun r S' q => by obtain ⟨rfl, q2⟩ := q; exact k S' q2)
theorem s_cS1J {x1 : Value} {S0 : ZSt} {v : Int64} (h : zD M.2.1 pc (.invokestatic ix) 3 pc') (hl : zML M.1.cls ix M') (cw : zCW M' 1) (iw : zSW M') (hw : (st.map fun v => v.category).sum ≤ 8) (hE : zEv d' M' ([x1]) S (zX (some (.long v)) S0)) (hd : d' < d) (k : zSem d M pc' ls (.long v :: st) S0 Q) : zSem d M pc ls (x1 :: st) S Q := s_callS (As := [x1]) (st := st) h hl cw iw rfl rfl hw hE hd (fun r S' q => by obtain ⟨rfl, rfl⟩ := q; exact k)
theorem s_yS1J {x1 : Value} {P0 : ZSt → Prop} {v : Int64} (h : zD M.2.1 pc (.invokestatic ix) 3 pc') (hl : zML M.1.cls ix M') (cw : zCW M' 1) (iw : zSW M') (hw : (st.map fun v => v.category).sum ≤ 8) (hE : zEv d' M' ([x1]) S (zY (some (.long v)) P0)) (hd : d' < d) (k : ∀ S1 : ZSt, P0 S1 → zSem d M pc' ls (.long v :: st) S1 Q) : zSem d M pc ls (x1 :: st) S Q := s_callS (As := [x1]) (st := st) h hl cw iw rfl rfl hw hE hd (fun r S' q => by obtain ⟨rfl, q2⟩ := q; exact k S' q2)
theorem s_cS1V {x1 : Value} {S0 : ZSt}  (h : zD M.2.1 pc (.invokestatic ix) 3 pc') (hl : zML M.1.cls ix M') (cw : zCW M' 1) (iw : zSW M') (hw : (st.map fun v => v.category).sum ≤ 8) (hE : zEv d' M' ([x1]) S (zX (none) S0)) (hd : d' < d) (k : zSem d M pc' ls (st) S0 Q) : zSem d M pc ls (x1 :: st) S Q := s_callS (As := [x1]) (st := st) h hl cw iw rfl rfl hw hE hd (fun r S' q => by obtain ⟨rfl, rfl⟩ := q; exact k)
theorem s_yS1V {x1 : Value} {P0 : ZSt → Prop}  (h : zD M.2.1 pc (.invokestatic ix) 3 pc') (hl : zML M.1.cls ix M') (cw : zCW M' 1) (iw : zSW M') (hw : (st.map fun v => v.category).sum ≤ 8) (hE : zEv d' M' ([x1]) S (zY (none) P0)) (hd : d' < d) (k : ∀ S1 : ZSt, P0 S1 → zSem d M pc' ls (st) S1 Q) : zSem d M pc ls (x1 :: st) S Q := s_callS (As := [x1]) (st := st) h hl cw iw rfl rfl hw hE hd (fun r S' q => by obtain ⟨rfl, q2⟩ := q; exact k S' q2)
theorem s_cS2I {x1 x2 : Value} {S0 : ZSt} {v : Int32} (h : zD M.2.1 pc (.invokestatic ix) 3 pc') (hl : zML M.1.cls ix M') (cw : zCW M' 2) (iw : zSW M') (hw : (st.map fun v => v.category).sum ≤ 8) (hE : zEv d' M' ([x1, x2]) S (zX (some (.int v)) S0)) (hd : d' < d) (k : zSem d M pc' ls (.int v :: st) S0 Q) : zSem d M pc ls (x2 :: x1 :: st) S Q := s_callS (As := [x1, x2]) (st := st) h hl cw iw rfl rfl hw hE hd (fun r S' q => by obtain ⟨rfl, rfl⟩ := q; exact k)
theorem s_yS2I {x1 x2 : Value} {P0 : ZSt → Prop} {v : Int32} (h : zD M.2.1 pc (.invokestatic ix) 3 pc') (hl : zML M.1.cls ix M') (cw : zCW M' 2) (iw : zSW M') (hw : (st.map fun v => v.category).sum ≤ 8) (hE : zEv d' M' ([x1, x2]) S (zY (some (.int v)) P0)) (hd : d' < d) (k : ∀ S1 : ZSt, P0 S1 → zSem d M pc' ls (.int v :: st) S1 Q) : zSem d M pc ls (x2 :: x1 :: st) S Q := s_callS (As := [x1, x2]) (st := st) h hl cw iw rfl rfl hw hE hd (fun r S' q => by obtain ⟨rfl, q2⟩ := q; exact k S' q2)
theorem s_cS2J {x1 x2 : Value} {S0 : ZSt} {v : Int64} (h : zD M.2.1 pc (.invokestatic ix) 3 pc') (hl : zML M.1.cls ix M') (cw : zCW M' 2) (iw : zSW M') (hw : (st.map fun v => v.category).sum ≤ 8) (hE : zEv d' M' ([x1, x2]) S (zX (some (.long v)) S0)) (hd : d' < d) (k : zSem d M pc' ls (.long v :: st) S0 Q) : zSem d M pc ls (x2 :: x1 :: st) S Q := s_callS (As := [x1, x2]) (st := st) h hl cw iw rfl rfl hw hE hd (fun r S' q => by obtain ⟨rfl, rfl⟩ := q; exact k)
theorem s_yS2J {x1 x2 : Value} {P0 : ZSt → Prop} {v : Int64} (h : zD M.2.1 pc (.invokestatic ix) 3 pc') (hl : zML M.1.cls ix M') (cw : zCW M' 2) (iw : zSW M') (hw : (st.map fun v => v.category).sum ≤ 8) (hE : zEv d' M' ([x1, x2]) S (zY (some (.long v)) P0)) (hd : d' < d) (k : ∀ S1 : ZSt, P0 S1 → zSem d M pc' ls (.long v :: st) S1 Q) : zSem d M pc ls (x2 :: x1 :: st) S Q := s_callS (As := [x1, x2]) (st := st) h hl cw iw rfl rfl hw hE hd (fun r S' q => by obtain ⟨rfl, q2⟩ := q; exact k S' q2)
theorem s_cS2V {x1 x2 : Value} {S0 : ZSt}  (h : zD M.2.1 pc (.invokestatic ix) 3 pc') (hl : zML M.1.cls ix M') (cw : zCW M' 2) (iw : zSW M') (hw : (st.map fun v => v.category).sum ≤ 8) (hE : zEv d' M' ([x1, x2]) S (zX (none) S0)) (hd : d' < d) (k : zSem d M pc' ls (st) S0 Q) : zSem d M pc ls (x2 :: x1 :: st) S Q := s_callS (As := [x1, x2]) (st := st) h hl cw iw rfl rfl hw hE hd (fun r S' q => by obtain ⟨rfl, rfl⟩ := q; exact k)
theorem s_yS2V {x1 x2 : Value} {P0 : ZSt → Prop}  (h : zD M.2.1 pc (.invokestatic ix) 3 pc') (hl : zML M.1.cls ix M') (cw : zCW M' 2) (iw : zSW M') (hw : (st.map fun v => v.category).sum ≤ 8) (hE : zEv d' M' ([x1, x2]) S (zY (none) P0)) (hd : d' < d) (k : ∀ S1 : ZSt, P0 S1 → zSem d M pc' ls (st) S1 Q) : zSem d M pc ls (x2 :: x1 :: st) S Q := s_callS (As := [x1, x2]) (st := st) h hl cw iw rfl rfl hw hE hd (fun r S' q => by obtain ⟨rfl, q2⟩ := q; exact k S' q2)
theorem s_cS3I {x1 x2 x3 : Value} {S0 : ZSt} {v : Int32} (h : zD M.2.1 pc (.invokestatic ix) 3 pc') (hl : zML M.1.cls ix M') (cw : zCW M' 3) (iw : zSW M') (hw : (st.map fun v => v.category).sum ≤ 8) (hE : zEv d' M' ([x1, x2, x3]) S (zX (some (.int v)) S0)) (hd : d' < d) (k : zSem d M pc' ls (.int v :: st) S0 Q) : zSem d M pc ls (x3 :: x2 :: x1 :: st) S Q := s_callS (As := [x1, x2, x3]) (st := st) h hl cw iw rfl rfl hw hE hd (fun r S' q => by obtain ⟨rfl, rfl⟩ := q; exact k)
theorem s_yS3I {x1 x2 x3 : Value} {P0 : ZSt → Prop} {v : Int32} (h : zD M.2.1 pc (.invokestatic ix) 3 pc') (hl : zML M.1.cls ix M') (cw : zCW M' 3) (iw : zSW M') (hw : (st.map fun v => v.category).sum ≤ 8) (hE : zEv d' M' ([x1, x2, x3]) S (zY (some (.int v)) P0)) (hd : d' < d) (k : ∀ S1 : ZSt, P0 S1 → zSem d M pc' ls (.int v :: st) S1 Q) : zSem d M pc ls (x3 :: x2 :: x1 :: st) S Q := s_callS (As := [x1, x2, x3]) (st := st) h hl cw iw rfl rfl hw hE hd (fun r S' q => by obtain ⟨rfl, q2⟩ := q; exact k S' q2)
theorem s_cS3J {x1 x2 x3 : Value} {S0 : ZSt} {v : Int64} (h : zD M.2.1 pc (.invokestatic ix) 3 pc') (hl : zML M.1.cls ix M') (cw : zCW M' 3) (iw : zSW M') (hw : (st.map fun v => v.category).sum ≤ 8) (hE : zEv d' M' ([x1, x2, x3]) S (zX (some (.long v)) S0)) (hd : d' < d) (k : zSem d M pc' ls (.long v :: st) S0 Q) : zSem d M pc ls (x3 :: x2 :: x1 :: st) S Q := s_callS (As := [x1, x2, x3]) (st := st) h hl cw iw rfl rfl hw hE hd (fun r S' q => by obtain ⟨rfl, rfl⟩ := q; exact k)
theorem s_yS3J {x1 x2 x3 : Value} {P0 : ZSt → Prop} {v : Int64} (h : zD M.2.1 pc (.invokestatic ix) 3 pc') (hl : zML M.1.cls ix M') (cw : zCW M' 3) (iw : zSW M') (hw : (st.map fun v => v.category).sum ≤ 8) (hE : zEv d' M' ([x1, x2, x3]) S (zY (some (.long v)) P0)) (hd : d' < d) (k : ∀ S1 : ZSt, P0 S1 → zSem d M pc' ls (.long v :: st) S1 Q) : zSem d M pc ls (x3 :: x2 :: x1 :: st) S Q := s_callS (As := [x1, x2, x3]) (st := st) h hl cw iw rfl rfl hw hE hd (fun r S' q => by obtain ⟨rfl, q2⟩ := q; exact k S' q2)
theorem s_cS3V {x1 x2 x3 : Value} {S0 : ZSt}  (h : zD M.2.1 pc (.invokestatic ix) 3 pc') (hl : zML M.1.cls ix M') (cw : zCW M' 3) (iw : zSW M') (hw : (st.map fun v => v.category).sum ≤ 8) (hE : zEv d' M' ([x1, x2, x3]) S (zX (none) S0)) (hd : d' < d) (k : zSem d M pc' ls (st) S0 Q) : zSem d M pc ls (x3 :: x2 :: x1 :: st) S Q := s_callS (As := [x1, x2, x3]) (st := st) h hl cw iw rfl rfl hw hE hd (fun r S' q => by obtain ⟨rfl, rfl⟩ := q; exact k)
theorem s_yS3V {x1 x2 x3 : Value} {P0 : ZSt → Prop}  (h : zD M.2.1 pc (.invokestatic ix) 3 pc') (hl : zML M.1.cls ix M') (cw : zCW M' 3) (iw : zSW M') (hw : (st.map fun v => v.category).sum ≤ 8) (hE : zEv d' M' ([x1, x2, x3]) S (zY (none) P0)) (hd : d' < d) (k : ∀ S1 : ZSt, P0 S1 → zSem d M pc' ls (st) S1 Q) : zSem d M pc ls (x3 :: x2 :: x1 :: st) S Q := s_callS (As := [x1, x2, x3]) (st := st) h hl cw iw rfl rfl hw hE hd (fun r S' q => by obtain ⟨rfl, q2⟩ := q; exact k S' q2)
theorem s_cS4I {x1 x2 x3 x4 : Value} {S0 : ZSt} {v : Int32} (h : zD M.2.1 pc (.invokestatic ix) 3 pc') (hl : zML M.1.cls ix M') (cw : zCW M' 4) (iw : zSW M') (hw : (st.map fun v => v.category).sum ≤ 8) (hE : zEv d' M' ([x1, x2, x3, x4]) S (zX (some (.int v)) S0)) (hd : d' < d) (k : zSem d M pc' ls (.int v :: st) S0 Q) : zSem d M pc ls (x4 :: x3 :: x2 :: x1 :: st) S Q := s_callS (As := [x1, x2, x3, x4]) (st := st) h hl cw iw rfl rfl hw hE hd (fun r S' q => by obtain ⟨rfl, rfl⟩ := q; exact k)
theorem s_yS4I {x1 x2 x3 x4 : Value} {P0 : ZSt → Prop} {v : Int32} (h : zD M.2.1 pc (.invokestatic ix) 3 pc') (hl : zML M.1.cls ix M') (cw : zCW M' 4) (iw : zSW M') (hw : (st.map fun v => v.category).sum ≤ 8) (hE : zEv d' M' ([x1, x2, x3, x4]) S (zY (some (.int v)) P0)) (hd : d' < d) (k : ∀ S1 : ZSt, P0 S1 → zSem d M pc' ls (.int v :: st) S1 Q) : zSem d M pc ls (x4 :: x3 :: x2 :: x1 :: st) S Q := s_callS (As := [x1, x2, x3, x4]) (st := st) h hl cw iw rfl rfl hw hE hd (fun r S' q => by obtain ⟨rfl, q2⟩ := q; exact k S' q2)
theorem s_cS4J {x1 x2 x3 x4 : Value} {S0 : ZSt} {v : Int64} (h : zD M.2.1 pc (.invokestatic ix) 3 pc') (hl : zML M.1.cls ix M') (cw : zCW M' 4) (iw : zSW M') (hw : (st.map fun v => v.category).sum ≤ 8) (hE : zEv d' M' ([x1, x2, x3, x4]) S (zX (some (.long v)) S0)) (hd : d' < d) (k : zSem d M pc' ls (.long v :: st) S0 Q) : zSem d M pc ls (x4 :: x3 :: x2 :: x1 :: st) S Q := s_callS (As := [x1, x2, x3, x4]) (st := st) h hl cw iw rfl rfl hw hE hd (fun r S' q => by obtain ⟨rfl, rfl⟩ := q; exact k)
theorem s_yS4J {x1 x2 x3 x4 : Value} {P0 : ZSt → Prop} {v : Int64} (h : zD M.2.1 pc (.invokestatic ix) 3 pc') (hl : zML M.1.cls ix M') (cw : zCW M' 4) (iw : zSW M') (hw : (st.map fun v => v.category).sum ≤ 8) (hE : zEv d' M' ([x1, x2, x3, x4]) S (zY (some (.long v)) P0)) (hd : d' < d) (k : ∀ S1 : ZSt, P0 S1 → zSem d M pc' ls (.long v :: st) S1 Q) : zSem d M pc ls (x4 :: x3 :: x2 :: x1 :: st) S Q := s_callS (As := [x1, x2, x3, x4]) (st := st) h hl cw iw rfl rfl hw hE hd (fun r S' q => by obtain ⟨rfl, q2⟩ := q; exact k S' q2)
theorem s_cS4V {x1 x2 x3 x4 : Value} {S0 : ZSt}  (h : zD M.2.1 pc (.invokestatic ix) 3 pc') (hl : zML M.1.cls ix M') (cw : zCW M' 4) (iw : zSW M') (hw : (st.map fun v => v.category).sum ≤ 8) (hE : zEv d' M' ([x1, x2, x3, x4]) S (zX (none) S0)) (hd : d' < d) (k : zSem d M pc' ls (st) S0 Q) : zSem d M pc ls (x4 :: x3 :: x2 :: x1 :: st) S Q := s_callS (As := [x1, x2, x3, x4]) (st := st) h hl cw iw rfl rfl hw hE hd (fun r S' q => by obtain ⟨rfl, rfl⟩ := q; exact k)
theorem s_yS4V {x1 x2 x3 x4 : Value} {P0 : ZSt → Prop}  (h : zD M.2.1 pc (.invokestatic ix) 3 pc') (hl : zML M.1.cls ix M') (cw : zCW M' 4) (iw : zSW M') (hw : (st.map fun v => v.category).sum ≤ 8) (hE : zEv d' M' ([x1, x2, x3, x4]) S (zY (none) P0)) (hd : d' < d) (k : ∀ S1 : ZSt, P0 S1 → zSem d M pc' ls (st) S1 Q) : zSem d M pc ls (x4 :: x3 :: x2 :: x1 :: st) S Q := s_callS (As := [x1, x2, x3, x4]) (st := st) h hl cw iw rfl rfl hw hE hd (fun r S' q => by obtain ⟨rfl, q2⟩ := q; exact k S' q2)
theorem s_cS5I {x1 x2 x3 x4 x5 : Value} {S0 : ZSt} {v : Int32} (h : zD M.2.1 pc (.invokestatic ix) 3 pc') (hl : zML M.1.cls ix M') (cw : zCW M' 5) (iw : zSW M') (hw : (st.map fun v => v.category).sum ≤ 8) (hE : zEv d' M' ([x1, x2, x3, x4, x5]) S (zX (some (.int v)) S0)) (hd : d' < d) (k : zSem d M pc' ls (.int v :: st) S0 Q) : zSem d M pc ls (x5 :: x4 :: x3 :: x2 :: x1 :: st) S Q := s_callS (As := [x1, x2, x3, x4, x5]) (st := st) h hl cw iw rfl rfl hw hE hd (fun r S' q => by obtain ⟨rfl, rfl⟩ := q; exact k)
theorem s_yS5I {x1 x2 x3 x4 x5 : Value} {P0 : ZSt → Prop} {v : Int32} (h : zD M.2.1 pc (.invokestatic ix) 3 pc') (hl : zML M.1.cls ix M') (cw : zCW M' 5) (iw : zSW M') (hw : (st.map fun v => v.category).sum ≤ 8) (hE : zEv d' M' ([x1, x2, x3, x4, x5]) S (zY (some (.int v)) P0)) (hd : d' < d) (k : ∀ S1 : ZSt, P0 S1 → zSem d M pc' ls (.int v :: st) S1 Q) : zSem d M pc ls (x5 :: x4 :: x3 :: x2 :: x1 :: st) S Q := s_callS (As := [x1, x2, x3, x4, x5]) (st := st) h hl cw iw rfl rfl hw hE hd (fun r S' q => by obtain ⟨rfl, q2⟩ := q; exact k S' q2)
theorem s_cS5J {x1 x2 x3 x4 x5 : Value} {S0 : ZSt} {v : Int64} (h : zD M.2.1 pc (.invokestatic ix) 3 pc') (hl : zML M.1.cls ix M') (cw : zCW M' 5) (iw : zSW M') (hw : (st.map fun v => v.category).sum ≤ 8) (hE : zEv d' M' ([x1, x2, x3, x4, x5]) S (zX (some (.long v)) S0)) (hd : d' < d) (k : zSem d M pc' ls (.long v :: st) S0 Q) : zSem d M pc ls (x5 :: x4 :: x3 :: x2 :: x1 :: st) S Q := s_callS (As := [x1, x2, x3, x4, x5]) (st := st) h hl cw iw rfl rfl hw hE hd (fun r S' q => by obtain ⟨rfl, rfl⟩ := q; exact k)
theorem s_yS5J {x1 x2 x3 x4 x5 : Value} {P0 : ZSt → Prop} {v : Int64} (h : zD M.2.1 pc (.invokestatic ix) 3 pc') (hl : zML M.1.cls ix M') (cw : zCW M' 5) (iw : zSW M') (hw : (st.map fun v => v.category).sum ≤ 8) (hE : zEv d' M' ([x1, x2, x3, x4, x5]) S (zY (some (.long v)) P0)) (hd : d' < d) (k : ∀ S1 : ZSt, P0 S1 → zSem d M pc' ls (.long v :: st) S1 Q) : zSem d M pc ls (x5 :: x4 :: x3 :: x2 :: x1 :: st) S Q := s_callS (As := [x1, x2, x3, x4, x5]) (st := st) h hl cw iw rfl rfl hw hE hd (fun r S' q => by obtain ⟨rfl, q2⟩ := q; exact k S' q2)
theorem s_cS5V {x1 x2 x3 x4 x5 : Value} {S0 : ZSt}  (h : zD M.2.1 pc (.invokestatic ix) 3 pc') (hl : zML M.1.cls ix M') (cw : zCW M' 5) (iw : zSW M') (hw : (st.map fun v => v.category).sum ≤ 8) (hE : zEv d' M' ([x1, x2, x3, x4, x5]) S (zX (none) S0)) (hd : d' < d) (k : zSem d M pc' ls (st) S0 Q) : zSem d M pc ls (x5 :: x4 :: x3 :: x2 :: x1 :: st) S Q := s_callS (As := [x1, x2, x3, x4, x5]) (st := st) h hl cw iw rfl rfl hw hE hd (fun r S' q => by obtain ⟨rfl, rfl⟩ := q; exact k)
theorem s_yS5V {x1 x2 x3 x4 x5 : Value} {P0 : ZSt → Prop}  (h : zD M.2.1 pc (.invokestatic ix) 3 pc') (hl : zML M.1.cls ix M') (cw : zCW M' 5) (iw : zSW M') (hw : (st.map fun v => v.category).sum ≤ 8) (hE : zEv d' M' ([x1, x2, x3, x4, x5]) S (zY (none) P0)) (hd : d' < d) (k : ∀ S1 : ZSt, P0 S1 → zSem d M pc' ls (st) S1 Q) : zSem d M pc ls (x5 :: x4 :: x3 :: x2 :: x1 :: st) S Q := s_callS (As := [x1, x2, x3, x4, x5]) (st := st) h hl cw iw rfl rfl hw hE hd (fun r S' q => by obtain ⟨rfl, q2⟩ := q; exact k S' q2)
theorem s_cS6I {x1 x2 x3 x4 x5 x6 : Value} {S0 : ZSt} {v : Int32} (h : zD M.2.1 pc (.invokestatic ix) 3 pc') (hl : zML M.1.cls ix M') (cw : zCW M' 6) (iw : zSW M') (hw : (st.map fun v => v.category).sum ≤ 8) (hE : zEv d' M' ([x1, x2, x3, x4, x5, x6]) S (zX (some (.int v)) S0)) (hd : d' < d) (k : zSem d M pc' ls (.int v :: st) S0 Q) : zSem d M pc ls (x6 :: x5 :: x4 :: x3 :: x2 :: x1 :: st) S Q := s_callS (As := [x1, x2, x3, x4, x5, x6]) (st := st) h hl cw iw rfl rfl hw hE hd (fun r S' q => by obtain ⟨rfl, rfl⟩ := q; exact k)
theorem s_yS6I {x1 x2 x3 x4 x5 x6 : Value} {P0 : ZSt → Prop} {v : Int32} (h : zD M.2.1 pc (.invokestatic ix) 3 pc') (hl : zML M.1.cls ix M') (cw : zCW M' 6) (iw : zSW M') (hw : (st.map fun v => v.category).sum ≤ 8) (hE : zEv d' M' ([x1, x2, x3, x4, x5, x6]) S (zY (some (.int v)) P0)) (hd : d' < d) (k : ∀ S1 : ZSt, P0 S1 → zSem d M pc' ls (.int v :: st) S1 Q) : zSem d M pc ls (x6 :: x5 :: x4 :: x3 :: x2 :: x1 :: st) S Q := s_callS (As := [x1, x2, x3, x4, x5, x6]) (st := st) h hl cw iw rfl rfl hw hE hd (fun r S' q => by obtain ⟨rfl, q2⟩ := q; exact k S' q2)
theorem s_cS6J {x1 x2 x3 x4 x5 x6 : Value} {S0 : ZSt} {v : Int64} (h : zD M.2.1 pc (.invokestatic ix) 3 pc') (hl : zML M.1.cls ix M') (cw : zCW M' 6) (iw : zSW M') (hw : (st.map fun v => v.category).sum ≤ 8) (hE : zEv d' M' ([x1, x2, x3, x4, x5, x6]) S (zX (some (.long v)) S0)) (hd : d' < d) (k : zSem d M pc' ls (.long v :: st) S0 Q) : zSem d M pc ls (x6 :: x5 :: x4 :: x3 :: x2 :: x1 :: st) S Q := s_callS (As := [x1, x2, x3, x4, x5, x6]) (st := st) h hl cw iw rfl rfl hw hE hd (fun r S' q => by obtain ⟨rfl, rfl⟩ := q; exact k)
theorem s_yS6J {x1 x2 x3 x4 x5 x6 : Value} {P0 : ZSt → Prop} {v : Int64} (h : zD M.2.1 pc (.invokestatic ix) 3 pc') (hl : zML M.1.cls ix M') (cw : zCW M' 6) (iw : zSW M') (hw : (st.map fun v => v.category).sum ≤ 8) (hE : zEv d' M' ([x1, x2, x3, x4, x5, x6]) S (zY (some (.long v)) P0)) (hd : d' < d) (k : ∀ S1 : ZSt, P0 S1 → zSem d M pc' ls (.long v :: st) S1 Q) : zSem d M pc ls (x6 :: x5 :: x4 :: x3 :: x2 :: x1 :: st) S Q := s_callS (As := [x1, x2, x3, x4, x5, x6]) (st := st) h hl cw iw rfl rfl hw hE hd (fun r S' q => by obtain ⟨rfl, q2⟩ := q; exact k S' q2)
theorem s_cS6V {x1 x2 x3 x4 x5 x6 : Value} {S0 : ZSt}  (h : zD M.2.1 pc (.invokestatic ix) 3 pc') (hl : zML M.1.cls ix M') (cw : zCW M' 6) (iw : zSW M') (hw : (st.map fun v => v.category).sum ≤ 8) (hE : zEv d' M' ([x1, x2, x3, x4, x5, x6]) S (zX (none) S0)) (hd : d' < d) (k : zSem d M pc' ls (st) S0 Q) : zSem d M pc ls (x6 :: x5 :: x4 :: x3 :: x2 :: x1 :: st) S Q := s_callS (As := [x1, x2, x3, x4, x5, x6]) (st := st) h hl cw iw rfl rfl hw hE hd (fun r S' q => by obtain ⟨rfl, rfl⟩ := q; exact k)
theorem s_yS6V {x1 x2 x3 x4 x5 x6 : Value} {P0 : ZSt → Prop}  (h : zD M.2.1 pc (.invokestatic ix) 3 pc') (hl : zML M.1.cls ix M') (cw : zCW M' 6) (iw : zSW M') (hw : (st.map fun v => v.category).sum ≤ 8) (hE : zEv d' M' ([x1, x2, x3, x4, x5, x6]) S (zY (none) P0)) (hd : d' < d) (k : ∀ S1 : ZSt, P0 S1 → zSem d M pc' ls (st) S1 Q) : zSem d M pc ls (x6 :: x5 :: x4 :: x3 :: x2 :: x1 :: st) S Q := s_callS (As := [x1, x2, x3, x4, x5, x6]) (st := st) h hl cw iw rfl rfl hw hE hd (fun r S' q => by obtain ⟨rfl, q2⟩ := q; exact k S' q2)
theorem s_cN1I {x1 : Value} {S0 : ZSt} {v : Int32} (h : zD M.2.1 pc (.invokestatic ix) 3 pc') (hl : zMN M.1.cls ix M' host) (cw : zCW M' 1) (iw : zSW M') (hw : (st.map fun v => v.category).sum ≤ 8) (hE : zEv d' M' ([x1]) S (zX (some (.int v)) S0)) (hd : d' < d) (k : zSem d M pc' ls (.int v :: st) S0 Q) : zSem d M pc ls (x1 :: st) S Q := s_callN (As := [x1]) (st := st) h hl cw iw rfl rfl hw hE hd (fun r S' q => by obtain ⟨rfl, rfl⟩ := q; exact k)
theorem s_yN1I {x1 : Value} {P0 : ZSt → Prop} {v : Int32} (h : zD M.2.1 pc (.invokestatic ix) 3 pc') (hl : zMN M.1.cls ix M' host) (cw : zCW M' 1) (iw : zSW M') (hw : (st.map fun v => v.category).sum ≤ 8) (hE : zEv d' M' ([x1]) S (zY (some (.int v)) P0)) (hd : d' < d) (k : ∀ S1 : ZSt, P0 S1 → zSem d M pc' ls (.int v :: st) S1 Q) : zSem d M pc ls (x1 :: st) S Q := s_callN (As := [x1]) (st := st) h hl cw iw rfl rfl hw hE hd (fun r S' q => by obtain ⟨rfl, q2⟩ := q; exact k S' q2)
theorem s_cN1J {x1 : Value} {S0 : ZSt} {v : Int64} (h : zD M.2.1 pc (.invokestatic ix) 3 pc') (hl : zMN M.1.cls ix M' host) (cw : zCW M' 1) (iw : zSW M') (hw : (st.map fun v => v.category).sum ≤ 8) (hE : zEv d' M' ([x1]) S (zX (some (.long v)) S0)) (hd : d' < d) (k : zSem d M pc' ls (.long v :: st) S0 Q) : zSem d M pc ls (x1 :: st) S Q := s_callN (As := [x1]) (st := st) h hl cw iw rfl rfl hw hE hd (fun r S' q => by obtain ⟨rfl, rfl⟩ := q; exact k)
theorem s_yN1J {x1 : Value} {P0 : ZSt → Prop} {v : Int64} (h : zD M.2.1 pc (.invokestatic ix) 3 pc') (hl : zMN M.1.cls ix M' host) (cw : zCW M' 1) (iw : zSW M') (hw : (st.map fun v => v.category).sum ≤ 8) (hE : zEv d' M' ([x1]) S (zY (some (.long v)) P0)) (hd : d' < d) (k : ∀ S1 : ZSt, P0 S1 → zSem d M pc' ls (.long v :: st) S1 Q) : zSem d M pc ls (x1 :: st) S Q := s_callN (As := [x1]) (st := st) h hl cw iw rfl rfl hw hE hd (fun r S' q => by obtain ⟨rfl, q2⟩ := q; exact k S' q2)
theorem s_cN1V {x1 : Value} {S0 : ZSt}  (h : zD M.2.1 pc (.invokestatic ix) 3 pc') (hl : zMN M.1.cls ix M' host) (cw : zCW M' 1) (iw : zSW M') (hw : (st.map fun v => v.category).sum ≤ 8) (hE : zEv d' M' ([x1]) S (zX (none) S0)) (hd : d' < d) (k : zSem d M pc' ls (st) S0 Q) : zSem d M pc ls (x1 :: st) S Q := s_callN (As := [x1]) (st := st) h hl cw iw rfl rfl hw hE hd (fun r S' q => by obtain ⟨rfl, rfl⟩ := q; exact k)
theorem s_yN1V {x1 : Value} {P0 : ZSt → Prop}  (h : zD M.2.1 pc (.invokestatic ix) 3 pc') (hl : zMN M.1.cls ix M' host) (cw : zCW M' 1) (iw : zSW M') (hw : (st.map fun v => v.category).sum ≤ 8) (hE : zEv d' M' ([x1]) S (zY (none) P0)) (hd : d' < d) (k : ∀ S1 : ZSt, P0 S1 → zSem d M pc' ls (st) S1 Q) : zSem d M pc ls (x1 :: st) S Q := s_callN (As := [x1]) (st := st) h hl cw iw rfl rfl hw hE hd (fun r S' q => by obtain ⟨rfl, q2⟩ := q; exact k S' q2)
theorem s_cN2I {x1 x2 : Value} {S0 : ZSt} {v : Int32} (h : zD M.2.1 pc (.invokestatic ix) 3 pc') (hl : zMN M.1.cls ix M' host) (cw : zCW M' 2) (iw : zSW M') (hw : (st.map fun v => v.category).sum ≤ 8) (hE : zEv d' M' ([x1, x2]) S (zX (some (.int v)) S0)) (hd : d' < d) (k : zSem d M pc' ls (.int v :: st) S0 Q) : zSem d M pc ls (x2 :: x1 :: st) S Q := s_callN (As := [x1, x2]) (st := st) h hl cw iw rfl rfl hw hE hd (fun r S' q => by obtain ⟨rfl, rfl⟩ := q; exact k)
theorem s_yN2I {x1 x2 : Value} {P0 : ZSt → Prop} {v : Int32} (h : zD M.2.1 pc (.invokestatic ix) 3 pc') (hl : zMN M.1.cls ix M' host) (cw : zCW M' 2) (iw : zSW M') (hw : (st.map fun v => v.category).sum ≤ 8) (hE : zEv d' M' ([x1, x2]) S (zY (some (.int v)) P0)) (hd : d' < d) (k : ∀ S1 : ZSt, P0 S1 → zSem d M pc' ls (.int v :: st) S1 Q) : zSem d M pc ls (x2 :: x1 :: st) S Q := s_callN (As := [x1, x2]) (st := st) h hl cw iw rfl rfl hw hE hd (fun r S' q => by obtain ⟨rfl, q2⟩ := q; exact k S' q2)
theorem s_cN2J {x1 x2 : Value} {S0 : ZSt} {v : Int64} (h : zD M.2.1 pc (.invokestatic ix) 3 pc') (hl : zMN M.1.cls ix M' host) (cw : zCW M' 2) (iw : zSW M') (hw : (st.map fun v => v.category).sum ≤ 8) (hE : zEv d' M' ([x1, x2]) S (zX (some (.long v)) S0)) (hd : d' < d) (k : zSem d M pc' ls (.long v :: st) S0 Q) : zSem d M pc ls (x2 :: x1 :: st) S Q := s_callN (As := [x1, x2]) (st := st) h hl cw iw rfl rfl hw hE hd (fun r S' q => by obtain ⟨rfl, rfl⟩ := q; exact k)
theorem s_yN2J {x1 x2 : Value} {P0 : ZSt → Prop} {v : Int64} (h : zD M.2.1 pc (.invokestatic ix) 3 pc') (hl : zMN M.1.cls ix M' host) (cw : zCW M' 2) (iw : zSW M') (hw : (st.map fun v => v.category).sum ≤ 8) (hE : zEv d' M' ([x1, x2]) S (zY (some (.long v)) P0)) (hd : d' < d) (k : ∀ S1 : ZSt, P0 S1 → zSem d M pc' ls (.long v :: st) S1 Q) : zSem d M pc ls (x2 :: x1 :: st) S Q := s_callN (As := [x1, x2]) (st := st) h hl cw iw rfl rfl hw hE hd (fun r S' q => by obtain ⟨rfl, q2⟩ := q; exact k S' q2)
theorem s_cN2V {x1 x2 : Value} {S0 : ZSt}  (h : zD M.2.1 pc (.invokestatic ix) 3 pc') (hl : zMN M.1.cls ix M' host) (cw : zCW M' 2) (iw : zSW M') (hw : (st.map fun v => v.category).sum ≤ 8) (hE : zEv d' M' ([x1, x2]) S (zX (none) S0)) (hd : d' < d) (k : zSem d M pc' ls (st) S0 Q) : zSem d M pc ls (x2 :: x1 :: st) S Q := s_callN (As := [x1, x2]) (st := st) h hl cw iw rfl rfl hw hE hd (fun r S' q => by obtain ⟨rfl, rfl⟩ := q; exact k)
theorem s_yN2V {x1 x2 : Value} {P0 : ZSt → Prop}  (h : zD M.2.1 pc (.invokestatic ix) 3 pc') (hl : zMN M.1.cls ix M' host) (cw : zCW M' 2) (iw : zSW M') (hw : (st.map fun v => v.category).sum ≤ 8) (hE : zEv d' M' ([x1, x2]) S (zY (none) P0)) (hd : d' < d) (k : ∀ S1 : ZSt, P0 S1 → zSem d M pc' ls (st) S1 Q) : zSem d M pc ls (x2 :: x1 :: st) S Q := s_callN (As := [x1, x2]) (st := st) h hl cw iw rfl rfl hw hE hd (fun r S' q => by obtain ⟨rfl, q2⟩ := q; exact k S' q2)
theorem s_cN3I {x1 x2 x3 : Value} {S0 : ZSt} {v : Int32} (h : zD M.2.1 pc (.invokestatic ix) 3 pc') (hl : zMN M.1.cls ix M' host) (cw : zCW M' 3) (iw : zSW M') (hw : (st.map fun v => v.category).sum ≤ 8) (hE : zEv d' M' ([x1, x2, x3]) S (zX (some (.int v)) S0)) (hd : d' < d) (k : zSem d M pc' ls (.int v :: st) S0 Q) : zSem d M pc ls (x3 :: x2 :: x1 :: st) S Q := s_callN (As := [x1, x2, x3]) (st := st) h hl cw iw rfl rfl hw hE hd (fun r S' q => by obtain ⟨rfl, rfl⟩ := q; exact k)
theorem s_yN3I {x1 x2 x3 : Value} {P0 : ZSt → Prop} {v : Int32} (h : zD M.2.1 pc (.invokestatic ix) 3 pc') (hl : zMN M.1.cls ix M' host) (cw : zCW M' 3) (iw : zSW M') (hw : (st.map fun v => v.category).sum ≤ 8) (hE : zEv d' M' ([x1, x2, x3]) S (zY (some (.int v)) P0)) (hd : d' < d) (k : ∀ S1 : ZSt, P0 S1 → zSem d M pc' ls (.int v :: st) S1 Q) : zSem d M pc ls (x3 :: x2 :: x1 :: st) S Q := s_callN (As := [x1, x2, x3]) (st := st) h hl cw iw rfl rfl hw hE hd (fun r S' q => by obtain ⟨rfl, q2⟩ := q; exact k S' q2)
theorem s_cN3J {x1 x2 x3 : Value} {S0 : ZSt} {v : Int64} (h : zD M.2.1 pc (.invokestatic ix) 3 pc') (hl : zMN M.1.cls ix M' host) (cw : zCW M' 3) (iw : zSW M') (hw : (st.map fun v => v.category).sum ≤ 8) (hE : zEv d' M' ([x1, x2, x3]) S (zX (some (.long v)) S0)) (hd : d' < d) (k : zSem d M pc' ls (.long v :: st) S0 Q) : zSem d M pc ls (x3 :: x2 :: x1 :: st) S Q := s_callN (As := [x1, x2, x3]) (st := st) h hl cw iw rfl rfl hw hE hd (fun r S' q => by obtain ⟨rfl, rfl⟩ := q; exact k)
theorem s_yN3J {x1 x2 x3 : Value} {P0 : ZSt → Prop} {v : Int64} (h : zD M.2.1 pc (.invokestatic ix) 3 pc') (hl : zMN M.1.cls ix M' host) (cw : zCW M' 3) (iw : zSW M') (hw : (st.map fun v => v.category).sum ≤ 8) (hE : zEv d' M' ([x1, x2, x3]) S (zY (some (.long v)) P0)) (hd : d' < d) (k : ∀ S1 : ZSt, P0 S1 → zSem d M pc' ls (.long v :: st) S1 Q) : zSem d M pc ls (x3 :: x2 :: x1 :: st) S Q := s_callN (As := [x1, x2, x3]) (st := st) h hl cw iw rfl rfl hw hE hd (fun r S' q => by obtain ⟨rfl, q2⟩ := q; exact k S' q2)
theorem s_cN3V {x1 x2 x3 : Value} {S0 : ZSt}  (h : zD M.2.1 pc (.invokestatic ix) 3 pc') (hl : zMN M.1.cls ix M' host) (cw : zCW M' 3) (iw : zSW M') (hw : (st.map fun v => v.category).sum ≤ 8) (hE : zEv d' M' ([x1, x2, x3]) S (zX (none) S0)) (hd : d' < d) (k : zSem d M pc' ls (st) S0 Q) : zSem d M pc ls (x3 :: x2 :: x1 :: st) S Q := s_callN (As := [x1, x2, x3]) (st := st) h hl cw iw rfl rfl hw hE hd (fun r S' q => by obtain ⟨rfl, rfl⟩ := q; exact k)
theorem s_yN3V {x1 x2 x3 : Value} {P0 : ZSt → Prop}  (h : zD M.2.1 pc (.invokestatic ix) 3 pc') (hl : zMN M.1.cls ix M' host) (cw : zCW M' 3) (iw : zSW M') (hw : (st.map fun v => v.category).sum ≤ 8) (hE : zEv d' M' ([x1, x2, x3]) S (zY (none) P0)) (hd : d' < d) (k : ∀ S1 : ZSt, P0 S1 → zSem d M pc' ls (st) S1 Q) : zSem d M pc ls (x3 :: x2 :: x1 :: st) S Q := s_callN (As := [x1, x2, x3]) (st := st) h hl cw iw rfl rfl hw hE hd (fun r S' q => by obtain ⟨rfl, q2⟩ := q; exact k S' q2)
theorem s_cN4I {x1 x2 x3 x4 : Value} {S0 : ZSt} {v : Int32} (h : zD M.2.1 pc (.invokestatic ix) 3 pc') (hl : zMN M.1.cls ix M' host) (cw : zCW M' 4) (iw : zSW M') (hw : (st.map fun v => v.category).sum ≤ 8) (hE : zEv d' M' ([x1, x2, x3, x4]) S (zX (some (.int v)) S0)) (hd : d' < d) (k : zSem d M pc' ls (.int v :: st) S0 Q) : zSem d M pc ls (x4 :: x3 :: x2 :: x1 :: st) S Q := s_callN (As := [x1, x2, x3, x4]) (st := st) h hl cw iw rfl rfl hw hE hd (fun r S' q => by obtain ⟨rfl, rfl⟩ := q; exact k)
theorem s_yN4I {x1 x2 x3 x4 : Value} {P0 : ZSt → Prop} {v : Int32} (h : zD M.2.1 pc (.invokestatic ix) 3 pc') (hl : zMN M.1.cls ix M' host) (cw : zCW M' 4) (iw : zSW M') (hw : (st.map fun v => v.category).sum ≤ 8) (hE : zEv d' M' ([x1, x2, x3, x4]) S (zY (some (.int v)) P0)) (hd : d' < d) (k : ∀ S1 : ZSt, P0 S1 → zSem d M pc' ls (.int v :: st) S1 Q) : zSem d M pc ls (x4 :: x3 :: x2 :: x1 :: st) S Q := s_callN (As := [x1, x2, x3, x4]) (st := st) h hl cw iw rfl rfl hw hE hd (fun r S' q => by obtain ⟨rfl, q2⟩ := q; exact k S' q2)
theorem s_cN4J {x1 x2 x3 x4 : Value} {S0 : ZSt} {v : Int64} (h : zD M.2.1 pc (.invokestatic ix) 3 pc') (hl : zMN M.1.cls ix M' host) (cw : zCW M' 4) (iw : zSW M') (hw : (st.map fun v => v.category).sum ≤ 8) (hE : zEv d' M' ([x1, x2, x3, x4]) S (zX (some (.long v)) S0)) (hd : d' < d) (k : zSem d M pc' ls (.long v :: st) S0 Q) : zSem d M pc ls (x4 :: x3 :: x2 :: x1 :: st) S Q := s_callN (As := [x1, x2, x3, x4]) (st := st) h hl cw iw rfl rfl hw hE hd (fun r S' q => by obtain ⟨rfl, rfl⟩ := q; exact k)
theorem s_yN4J {x1 x2 x3 x4 : Value} {P0 : ZSt → Prop} {v : Int64} (h : zD M.2.1 pc (.invokestatic ix) 3 pc') (hl : zMN M.1.cls ix M' host) (cw : zCW M' 4) (iw : zSW M') (hw : (st.map fun v => v.category).sum ≤ 8) (hE : zEv d' M' ([x1, x2, x3, x4]) S (zY (some (.long v)) P0)) (hd : d' < d) (k : ∀ S1 : ZSt, P0 S1 → zSem d M pc' ls (.long v :: st) S1 Q) : zSem d M pc ls (x4 :: x3 :: x2 :: x1 :: st) S Q := s_callN (As := [x1, x2, x3, x4]) (st := st) h hl cw iw rfl rfl hw hE hd (fun r S' q => by obtain ⟨rfl, q2⟩ := q; exact k S' q2)
theorem s_cN4V {x1 x2 x3 x4 : Value} {S0 : ZSt}  (h : zD M.2.1 pc (.invokestatic ix) 3 pc') (hl : zMN M.1.cls ix M' host) (cw : zCW M' 4) (iw : zSW M') (hw : (st.map fun v => v.category).sum ≤ 8) (hE : zEv d' M' ([x1, x2, x3, x4]) S (zX (none) S0)) (hd : d' < d) (k : zSem d M pc' ls (st) S0 Q) : zSem d M pc ls (x4 :: x3 :: x2 :: x1 :: st) S Q := s_callN (As := [x1, x2, x3, x4]) (st := st) h hl cw iw rfl rfl hw hE hd (fun r S' q => by obtain ⟨rfl, rfl⟩ := q; exact k)
theorem s_yN4V {x1 x2 x3 x4 : Value} {P0 : ZSt → Prop}  (h : zD M.2.1 pc (.invokestatic ix) 3 pc') (hl : zMN M.1.cls ix M' host) (cw : zCW M' 4) (iw : zSW M') (hw : (st.map fun v => v.category).sum ≤ 8) (hE : zEv d' M' ([x1, x2, x3, x4]) S (zY (none) P0)) (hd : d' < d) (k : ∀ S1 : ZSt, P0 S1 → zSem d M pc' ls (st) S1 Q) : zSem d M pc ls (x4 :: x3 :: x2 :: x1 :: st) S Q := s_callN (As := [x1, x2, x3, x4]) (st := st) h hl cw iw rfl rfl hw hE hd (fun r S' q => by obtain ⟨rfl, q2⟩ := q; exact k S' q2)
theorem s_cN5I {x1 x2 x3 x4 x5 : Value} {S0 : ZSt} {v : Int32} (h : zD M.2.1 pc (.invokestatic ix) 3 pc') (hl : zMN M.1.cls ix M' host) (cw : zCW M' 5) (iw : zSW M') (hw : (st.map fun v => v.category).sum ≤ 8) (hE : zEv d' M' ([x1, x2, x3, x4, x5]) S (zX (some (.int v)) S0)) (hd : d' < d) (k : zSem d M pc' ls (.int v :: st) S0 Q) : zSem d M pc ls (x5 :: x4 :: x3 :: x2 :: x1 :: st) S Q := s_callN (As := [x1, x2, x3, x4, x5]) (st := st) h hl cw iw rfl rfl hw hE hd (fun r S' q => by obtain ⟨rfl, rfl⟩ := q; exact k)
theorem s_yN5I {x1 x2 x3 x4 x5 : Value} {P0 : ZSt → Prop} {v : Int32} (h : zD M.2.1 pc (.invokestatic ix) 3 pc') (hl : zMN M.1.cls ix M' host) (cw : zCW M' 5) (iw : zSW M') (hw : (st.map fun v => v.category).sum ≤ 8) (hE : zEv d' M' ([x1, x2, x3, x4, x5]) S (zY (some (.int v)) P0)) (hd : d' < d) (k : ∀ S1 : ZSt, P0 S1 → zSem d M pc' ls (.int v :: st) S1 Q) : zSem d M pc ls (x5 :: x4 :: x3 :: x2 :: x1 :: st) S Q := s_callN (As := [x1, x2, x3, x4, x5]) (st := st) h hl cw iw rfl rfl hw hE hd (fun r S' q => by obtain ⟨rfl, q2⟩ := q; exact k S' q2)
theorem s_cN5J {x1 x2 x3 x4 x5 : Value} {S0 : ZSt} {v : Int64} (h : zD M.2.1 pc (.invokestatic ix) 3 pc') (hl : zMN M.1.cls ix M' host) (cw : zCW M' 5) (iw : zSW M') (hw : (st.map fun v => v.category).sum ≤ 8) (hE : zEv d' M' ([x1, x2, x3, x4, x5]) S (zX (some (.long v)) S0)) (hd : d' < d) (k : zSem d M pc' ls (.long v :: st) S0 Q) : zSem d M pc ls (x5 :: x4 :: x3 :: x2 :: x1 :: st) S Q := s_callN (As := [x1, x2, x3, x4, x5]) (st := st) h hl cw iw rfl rfl hw hE hd (fun r S' q => by obtain ⟨rfl, rfl⟩ := q; exact k)
theorem s_yN5J {x1 x2 x3 x4 x5 : Value} {P0 : ZSt → Prop} {v : Int64} (h : zD M.2.1 pc (.invokestatic ix) 3 pc') (hl : zMN M.1.cls ix M' host) (cw : zCW M' 5) (iw : zSW M') (hw : (st.map fun v => v.category).sum ≤ 8) (hE : zEv d' M' ([x1, x2, x3, x4, x5]) S (zY (some (.long v)) P0)) (hd : d' < d) (k : ∀ S1 : ZSt, P0 S1 → zSem d M pc' ls (.long v :: st) S1 Q) : zSem d M pc ls (x5 :: x4 :: x3 :: x2 :: x1 :: st) S Q := s_callN (As := [x1, x2, x3, x4, x5]) (st := st) h hl cw iw rfl rfl hw hE hd (fun r S' q => by obtain ⟨rfl, q2⟩ := q; exact k S' q2)
theorem s_cN5V {x1 x2 x3 x4 x5 : Value} {S0 : ZSt}  (h : zD M.2.1 pc (.invokestatic ix) 3 pc') (hl : zMN M.1.cls ix M' host) (cw : zCW M' 5) (iw : zSW M') (hw : (st.map fun v => v.category).sum ≤ 8) (hE : zEv d' M' ([x1, x2, x3, x4, x5]) S (zX (none) S0)) (hd : d' < d) (k : zSem d M pc' ls (st) S0 Q) : zSem d M pc ls (x5 :: x4 :: x3 :: x2 :: x1 :: st) S Q := s_callN (As := [x1, x2, x3, x4, x5]) (st := st) h hl cw iw rfl rfl hw hE hd (fun r S' q => by obtain ⟨rfl, rfl⟩ := q; exact k)
theorem s_yN5V {x1 x2 x3 x4 x5 : Value} {P0 : ZSt → Prop}  (h : zD M.2.1 pc (.invokestatic ix) 3 pc') (hl : zMN M.1.cls ix M' host) (cw : zCW M' 5) (iw : zSW M') (hw : (st.map fun v => v.category).sum ≤ 8) (hE : zEv d' M' ([x1, x2, x3, x4, x5]) S (zY (none) P0)) (hd : d' < d) (k : ∀ S1 : ZSt, P0 S1 → zSem d M pc' ls (st) S1 Q) : zSem d M pc ls (x5 :: x4 :: x3 :: x2 :: x1 :: st) S Q := s_callN (As := [x1, x2, x3, x4, x5]) (st := st) h hl cw iw rfl rfl hw hE hd (fun r S' q => by obtain ⟨rfl, q2⟩ := q; exact k S' q2)
theorem s_cN6I {x1 x2 x3 x4 x5 x6 : Value} {S0 : ZSt} {v : Int32} (h : zD M.2.1 pc (.invokestatic ix) 3 pc') (hl : zMN M.1.cls ix M' host) (cw : zCW M' 6) (iw : zSW M') (hw : (st.map fun v => v.category).sum ≤ 8) (hE : zEv d' M' ([x1, x2, x3, x4, x5, x6]) S (zX (some (.int v)) S0)) (hd : d' < d) (k : zSem d M pc' ls (.int v :: st) S0 Q) : zSem d M pc ls (x6 :: x5 :: x4 :: x3 :: x2 :: x1 :: st) S Q := s_callN (As := [x1, x2, x3, x4, x5, x6]) (st := st) h hl cw iw rfl rfl hw hE hd (fun r S' q => by obtain ⟨rfl, rfl⟩ := q; exact k)
theorem s_yN6I {x1 x2 x3 x4 x5 x6 : Value} {P0 : ZSt → Prop} {v : Int32} (h : zD M.2.1 pc (.invokestatic ix) 3 pc') (hl : zMN M.1.cls ix M' host) (cw : zCW M' 6) (iw : zSW M') (hw : (st.map fun v => v.category).sum ≤ 8) (hE : zEv d' M' ([x1, x2, x3, x4, x5, x6]) S (zY (some (.int v)) P0)) (hd : d' < d) (k : ∀ S1 : ZSt, P0 S1 → zSem d M pc' ls (.int v :: st) S1 Q) : zSem d M pc ls (x6 :: x5 :: x4 :: x3 :: x2 :: x1 :: st) S Q := s_callN (As := [x1, x2, x3, x4, x5, x6]) (st := st) h hl cw iw rfl rfl hw hE hd (fun r S' q => by obtain ⟨rfl, q2⟩ := q; exact k S' q2)
theorem s_cN6J {x1 x2 x3 x4 x5 x6 : Value} {S0 : ZSt} {v : Int64} (h : zD M.2.1 pc (.invokestatic ix) 3 pc') (hl : zMN M.1.cls ix M' host) (cw : zCW M' 6) (iw : zSW M') (hw : (st.map fun v => v.category).sum ≤ 8) (hE : zEv d' M' ([x1, x2, x3, x4, x5, x6]) S (zX (some (.long v)) S0)) (hd : d' < d) (k : zSem d M pc' ls (.long v :: st) S0 Q) : zSem d M pc ls (x6 :: x5 :: x4 :: x3 :: x2 :: x1 :: st) S Q := s_callN (As := [x1, x2, x3, x4, x5, x6]) (st := st) h hl cw iw rfl rfl hw hE hd (fun r S' q => by obtain ⟨rfl, rfl⟩ := q; exact k)
theorem s_yN6J {x1 x2 x3 x4 x5 x6 : Value} {P0 : ZSt → Prop} {v : Int64} (h : zD M.2.1 pc (.invokestatic ix) 3 pc') (hl : zMN M.1.cls ix M' host) (cw : zCW M' 6) (iw : zSW M') (hw : (st.map fun v => v.category).sum ≤ 8) (hE : zEv d' M' ([x1, x2, x3, x4, x5, x6]) S (zY (some (.long v)) P0)) (hd : d' < d) (k : ∀ S1 : ZSt, P0 S1 → zSem d M pc' ls (.long v :: st) S1 Q) : zSem d M pc ls (x6 :: x5 :: x4 :: x3 :: x2 :: x1 :: st) S Q := s_callN (As := [x1, x2, x3, x4, x5, x6]) (st := st) h hl cw iw rfl rfl hw hE hd (fun r S' q => by obtain ⟨rfl, q2⟩ := q; exact k S' q2)
theorem s_cN6V {x1 x2 x3 x4 x5 x6 : Value} {S0 : ZSt}  (h : zD M.2.1 pc (.invokestatic ix) 3 pc') (hl : zMN M.1.cls ix M' host) (cw : zCW M' 6) (iw : zSW M') (hw : (st.map fun v => v.category).sum ≤ 8) (hE : zEv d' M' ([x1, x2, x3, x4, x5, x6]) S (zX (none) S0)) (hd : d' < d) (k : zSem d M pc' ls (st) S0 Q) : zSem d M pc ls (x6 :: x5 :: x4 :: x3 :: x2 :: x1 :: st) S Q := s_callN (As := [x1, x2, x3, x4, x5, x6]) (st := st) h hl cw iw rfl rfl hw hE hd (fun r S' q => by obtain ⟨rfl, rfl⟩ := q; exact k)
theorem s_yN6V {x1 x2 x3 x4 x5 x6 : Value} {P0 : ZSt → Prop}  (h : zD M.2.1 pc (.invokestatic ix) 3 pc') (hl : zMN M.1.cls ix M' host) (cw : zCW M' 6) (iw : zSW M') (hw : (st.map fun v => v.category).sum ≤ 8) (hE : zEv d' M' ([x1, x2, x3, x4, x5, x6]) S (zY (none) P0)) (hd : d' < d) (k : ∀ S1 : ZSt, P0 S1 → zSem d M pc' ls (st) S1 Q) : zSem d M pc ls (x6 :: x5 :: x4 :: x3 :: x2 :: x1 :: st) S Q := s_callN (As := [x1, x2, x3, x4, x5, x6]) (st := st) h hl cw iw rfl rfl hw hE hd (fun r S' q => by obtain ⟨rfl, q2⟩ := q; exact k S' q2)
end ZR4
theorem ob_0 : zOb 0 6 := ⟨by decide, rfl⟩
theorem ob_1 : zOb 1 2 := ⟨by decide, rfl⟩
theorem ar_2 : zAr 2 0 6 := ⟨by decide, rfl⟩
theorem ar_3 : zAr 3 0 6 := ⟨by decide, rfl⟩
theorem ar_4 : zAr 4 0 6 := ⟨by decide, rfl⟩
theorem ar_5 : zAr 5 0 4 := ⟨by decide, rfl⟩
theorem ar_6 : zAr 6 0 4 := ⟨by decide, rfl⟩
theorem ar_7 : zAr 7 0 6 := ⟨by decide, rfl⟩
theorem ar_8 : zAr 8 0 6 := ⟨by decide, rfl⟩
theorem ar_9 : zAr 9 0 6 := ⟨by decide, rfl⟩
theorem ob_10 : zOb 10 2 := ⟨by decide, rfl⟩
theorem ar_11 : zAr 11 0 6 := ⟨by decide, rfl⟩
theorem ar_12 : zAr 12 0 6 := ⟨by decide, rfl⟩
theorem ar_13 : zAr 13 0 6 := ⟨by decide, rfl⟩
theorem ar_14 : zAr 14 0 4 := ⟨by decide, rfl⟩
theorem ar_15 : zAr 15 0 4 := ⟨by decide, rfl⟩
theorem ar_16 : zAr 16 0 6 := ⟨by decide, rfl⟩
theorem ar_17 : zAr 17 0 6 := ⟨by decide, rfl⟩
theorem ar_18 : zAr 18 0 6 := ⟨by decide, rfl⟩
theorem ar_19 : zAr 19 4 2 := ⟨by decide, rfl⟩
theorem ob_20 : zOb 20 2 := ⟨by decide, rfl⟩
theorem ar_21 : zAr 21 0 6 := ⟨by decide, rfl⟩
theorem ar_22 : zAr 22 0 6 := ⟨by decide, rfl⟩
theorem ar_23 : zAr 23 0 6 := ⟨by decide, rfl⟩
theorem ar_24 : zAr 24 0 4 := ⟨by decide, rfl⟩
theorem ar_25 : zAr 25 0 4 := ⟨by decide, rfl⟩
theorem ar_26 : zAr 26 0 6 := ⟨by decide, rfl⟩
theorem ar_27 : zAr 27 0 6 := ⟨by decide, rfl⟩
theorem ar_28 : zAr 28 0 6 := ⟨by decide, rfl⟩
theorem ob_29 : zOb 29 2 := ⟨by decide, rfl⟩
theorem ar_30 : zAr 30 0 6 := ⟨by decide, rfl⟩
theorem ar_31 : zAr 31 0 6 := ⟨by decide, rfl⟩
theorem ar_32 : zAr 32 0 6 := ⟨by decide, rfl⟩
theorem ar_33 : zAr 33 0 4 := ⟨by decide, rfl⟩
theorem ar_34 : zAr 34 0 4 := ⟨by decide, rfl⟩
theorem ar_35 : zAr 35 0 6 := ⟨by decide, rfl⟩
theorem ar_36 : zAr 36 0 6 := ⟨by decide, rfl⟩
theorem ar_37 : zAr 37 0 6 := ⟨by decide, rfl⟩
theorem ar_38 : zAr 38 1 2 := ⟨by decide, rfl⟩
theorem ob_39 : zOb 39 5 := ⟨by decide, rfl⟩
theorem ar_40 : zAr 40 2 160 := ⟨by decide, rfl⟩
theorem ob_41 : zOb 41 3 := ⟨by decide, rfl⟩
theorem ar_42 : zAr 42 0 96 := ⟨by decide, rfl⟩
theorem ar_43 : zAr 43 0 6 := ⟨by decide, rfl⟩
theorem ar_44 : zAr 44 0 4 := ⟨by decide, rfl⟩
theorem ar_45 : zAr 45 0 4 := ⟨by decide, rfl⟩
theorem ob_46 : zOb 46 1 := ⟨by decide, rfl⟩
theorem ar_47 : zAr 47 0 256 := ⟨by decide, rfl⟩
theorem ar_48 : zAr 48 0 256 := ⟨by decide, rfl⟩
theorem ar_49 : zAr 49 3 256 := ⟨by decide, rfl⟩
theorem ob_50 : zOb 50 0 := ⟨by decide, rfl⟩
theorem ar_51 : zAr 51 0 10 := ⟨by decide, rfl⟩
theorem ar_52 : zAr 52 0 10 := ⟨by decide, rfl⟩
theorem ob_53 : zOb 53 4 := ⟨by decide, rfl⟩
theorem ar_54 : zAr 54 0 160 := ⟨by decide, rfl⟩
theorem ar_55 : zAr 55 0 4 := ⟨by decide, rfl⟩
theorem ar_56 : zAr 56 0 4 := ⟨by decide, rfl⟩
theorem ob_57 : zOb 57 7 := ⟨by decide, rfl⟩
theorem ar_58 : zAr 58 0 150 := ⟨by decide, rfl⟩
theorem ar_59 : zAr 59 0 50 := ⟨by decide, rfl⟩
theorem ar_60 : zAr 60 1 2 := ⟨by decide, rfl⟩
theorem ar_61 : zAr 61 0 50 := ⟨by decide, rfl⟩
theorem ar_62 : zAr 62 0 160 := ⟨by decide, rfl⟩
theorem ar_63 : zAr 63 0 4 := ⟨by decide, rfl⟩
theorem ar_64 : zAr 64 0 126 := ⟨by decide, rfl⟩
theorem ar_65 : zAr 65 0 210 := ⟨by decide, rfl⟩
theorem ar_66 : zAr 66 0 4 := ⟨by decide, rfl⟩
theorem ar_67 : zAr 67 0 4 := ⟨by decide, rfl⟩
theorem ar_68 : zAr 68 0 160 := ⟨by decide, rfl⟩
theorem ar_69 : zAr 69 0 50 := ⟨by decide, rfl⟩
theorem ft_0_0 : zFR 0 0 := ⟨by decide, by decide, Or.inl ⟨_, rfl⟩⟩
theorem ft_0_1 : zFR 0 1 := ⟨by decide, by decide, Or.inl ⟨_, rfl⟩⟩
theorem ft_0_2 : zFI 0 2 := ⟨by decide, by decide, rfl⟩
theorem fp_0_2 : zFP 0 2 := rfl
theorem ft_1_0 : zFR 1 0 := ⟨by decide, by decide, Or.inl ⟨_, rfl⟩⟩
theorem ft_1_1 : zFR 1 1 := ⟨by decide, by decide, Or.inl ⟨_, rfl⟩⟩
theorem ft_1_2 : zFR 1 2 := ⟨by decide, by decide, Or.inl ⟨_, rfl⟩⟩
theorem ft_1_3 : zFI 1 3 := ⟨by decide, by decide, rfl⟩
theorem fp_1_3 : zFP 1 3 := rfl
theorem ft_2_0 : zFR 2 0 := ⟨by decide, by decide, Or.inl ⟨_, rfl⟩⟩
theorem ft_2_1 : zFR 2 1 := ⟨by decide, by decide, Or.inl ⟨_, rfl⟩⟩
theorem ft_2_2 : zFR 2 2 := ⟨by decide, by decide, Or.inl ⟨_, rfl⟩⟩
theorem ft_2_3 : zFR 2 3 := ⟨by decide, by decide, Or.inl ⟨_, rfl⟩⟩
theorem ft_2_4 : zFR 2 4 := ⟨by decide, by decide, Or.inl ⟨_, rfl⟩⟩
theorem ft_2_5 : zFR 2 5 := ⟨by decide, by decide, Or.inl ⟨_, rfl⟩⟩
theorem ft_2_6 : zFR 2 6 := ⟨by decide, by decide, Or.inl ⟨_, rfl⟩⟩
theorem ft_2_7 : zFR 2 7 := ⟨by decide, by decide, Or.inl ⟨_, rfl⟩⟩
theorem ft_2_8 : zFI 2 8 := ⟨by decide, by decide, rfl⟩
theorem fp_2_8 : zFP 2 8 := rfl
theorem ft_2_9 : zFI 2 9 := ⟨by decide, by decide, rfl⟩
theorem fp_2_9 : zFP 2 9 := rfl
theorem ft_2_10 : zFI 2 10 := ⟨by decide, by decide, rfl⟩
theorem fp_2_10 : zFP 2 10 := rfl
theorem ft_2_11 : zFI 2 11 := ⟨by decide, by decide, rfl⟩
theorem fp_2_11 : zFP 2 11 := rfl
theorem ft_2_12 : zFI 2 12 := ⟨by decide, by decide, rfl⟩
theorem fp_2_12 : zFP 2 12 := rfl
theorem ft_2_13 : zFI 2 13 := ⟨by decide, by decide, rfl⟩
theorem fp_2_13 : zFP 2 13 := rfl
theorem ft_3_0 : zFR 3 0 := ⟨by decide, by decide, Or.inl ⟨_, rfl⟩⟩
theorem ft_3_1 : zFR 3 1 := ⟨by decide, by decide, Or.inl ⟨_, rfl⟩⟩
theorem ft_3_2 : zFR 3 2 := ⟨by decide, by decide, Or.inl ⟨_, rfl⟩⟩
theorem ft_3_3 : zFR 3 3 := ⟨by decide, by decide, Or.inl ⟨_, rfl⟩⟩
theorem ft_3_4 : zFI 3 4 := ⟨by decide, by decide, rfl⟩
theorem fp_3_4 : zFP 3 4 := rfl
theorem ft_3_5 : zFI 3 5 := ⟨by decide, by decide, rfl⟩
theorem fp_3_5 : zFP 3 5 := rfl
theorem ft_4_0 : zFR 4 0 := ⟨by decide, by decide, Or.inl ⟨_, rfl⟩⟩
theorem ft_4_1 : zFR 4 1 := ⟨by decide, by decide, Or.inl ⟨_, rfl⟩⟩
theorem ft_4_2 : zFR 4 2 := ⟨by decide, by decide, Or.inl ⟨_, rfl⟩⟩
theorem ft_5_0 : zFR 5 0 := ⟨by decide, by decide, Or.inl ⟨_, rfl⟩⟩
theorem ft_5_1 : zFI 5 1 := ⟨by decide, by decide, rfl⟩
theorem fp_5_1 : zFP 5 1 := rfl
theorem ft_5_2 : zFI 5 2 := ⟨by decide, by decide, rfl⟩
theorem fp_5_2 : zFP 5 2 := rfl
theorem ft_5_3 : zFI 5 3 := ⟨by decide, by decide, rfl⟩
theorem fp_5_3 : zFP 5 3 := rfl
theorem ft_5_4 : zFI 5 4 := ⟨by decide, by decide, rfl⟩
theorem fp_5_4 : zFP 5 4 := rfl
theorem ft_5_5 : zFI 5 5 := ⟨by decide, by decide, rfl⟩
theorem fp_5_5 : zFP 5 5 := rfl
theorem ft_5_6 : zFI 5 6 := ⟨by decide, by decide, rfl⟩
theorem fp_5_6 : zFP 5 6 := rfl
theorem ft_5_7 : zFI 5 7 := ⟨by decide, by decide, rfl⟩
theorem fp_5_7 : zFP 5 7 := rfl
theorem ft_5_8 : zFZ 5 8 := ⟨by decide, by decide, rfl⟩
theorem fp_5_8 : zFP 5 8 := rfl
theorem ft_6_0 : zFR 6 0 := ⟨by decide, by decide, Or.inr ⟨_, rfl⟩⟩
theorem ft_6_1 : zFR 6 1 := ⟨by decide, by decide, Or.inr ⟨_, rfl⟩⟩
theorem ft_6_2 : zFR 6 2 := ⟨by decide, by decide, Or.inl ⟨_, rfl⟩⟩
theorem ft_6_3 : zFR 6 3 := ⟨by decide, by decide, Or.inl ⟨_, rfl⟩⟩
theorem ft_6_4 : zFR 6 4 := ⟨by decide, by decide, Or.inr ⟨_, rfl⟩⟩
theorem ft_6_5 : zFR 6 5 := ⟨by decide, by decide, Or.inr ⟨_, rfl⟩⟩
theorem ft_6_6 : zFR 6 6 := ⟨by decide, by decide, Or.inr ⟨_, rfl⟩⟩
theorem ft_6_7 : zFR 6 7 := ⟨by decide, by decide, Or.inr ⟨_, rfl⟩⟩
theorem ft_6_8 : zFR 6 8 := ⟨by decide, by decide, Or.inr ⟨_, rfl⟩⟩
theorem ft_6_9 : zFI 6 9 := ⟨by decide, by decide, rfl⟩
theorem fp_6_9 : zFP 6 9 := rfl
theorem ft_7_0 : zFR 7 0 := ⟨by decide, by decide, Or.inl ⟨_, rfl⟩⟩
theorem ft_7_1 : zFR 7 1 := ⟨by decide, by decide, Or.inl ⟨_, rfl⟩⟩
theorem ft_7_2 : zFR 7 2 := ⟨by decide, by decide, Or.inl ⟨_, rfl⟩⟩
theorem ft_7_3 : zFR 7 3 := ⟨by decide, by decide, Or.inl ⟨_, rfl⟩⟩
theorem ft_7_4 : zFZ 7 4 := ⟨by decide, by decide, rfl⟩
theorem fp_7_4 : zFP 7 4 := rfl
theorem ft_7_5 : zFI 7 5 := ⟨by decide, by decide, rfl⟩
theorem fp_7_5 : zFP 7 5 := rfl
theorem ft_7_6 : zFR 7 6 := ⟨by decide, by decide, Or.inl ⟨_, rfl⟩⟩
theorem ft_7_7 : zFI 7 7 := ⟨by decide, by decide, rfl⟩
theorem fp_7_7 : zFP 7 7 := rfl
theorem ft_7_8 : zFI 7 8 := ⟨by decide, by decide, rfl⟩
theorem fp_7_8 : zFP 7 8 := rfl
theorem ft_7_9 : zFI 7 9 := ⟨by decide, by decide, rfl⟩
theorem fp_7_9 : zFP 7 9 := rfl
theorem ft_7_10 : zFI 7 10 := ⟨by decide, by decide, rfl⟩
theorem fp_7_10 : zFP 7 10 := rfl
theorem ft_7_11 : zFI 7 11 := ⟨by decide, by decide, rfl⟩
theorem fp_7_11 : zFP 7 11 := rfl
theorem ft_7_12 : zFI 7 12 := ⟨by decide, by decide, rfl⟩
theorem fp_7_12 : zFP 7 12 := rfl
theorem ft_7_13 : zFI 7 13 := ⟨by decide, by decide, rfl⟩
theorem fp_7_13 : zFP 7 13 := rfl
theorem ft_7_14 : zFI 7 14 := ⟨by decide, by decide, rfl⟩
theorem fp_7_14 : zFP 7 14 := rfl
theorem ft_7_15 : zFI 7 15 := ⟨by decide, by decide, rfl⟩
theorem fp_7_15 : zFP 7 15 := rfl
theorem ft_7_16 : zFI 7 16 := ⟨by decide, by decide, rfl⟩
theorem fp_7_16 : zFP 7 16 := rfl
theorem ft_7_17 : zFI 7 17 := ⟨by decide, by decide, rfl⟩
theorem fp_7_17 : zFP 7 17 := rfl
theorem ft_7_18 : zFR 7 18 := ⟨by decide, by decide, Or.inl ⟨_, rfl⟩⟩
theorem ft_7_19 : zFJ 7 19 := ⟨by decide, by decide, rfl⟩
theorem fp_7_19 : zFP 7 19 := rfl
theorem ft_7_20 : zFJ 7 20 := ⟨by decide, by decide, rfl⟩
theorem fp_7_20 : zFP 7 20 := rfl
theorem ft_7_21 : zFJ 7 21 := ⟨by decide, by decide, rfl⟩
theorem fp_7_21 : zFP 7 21 := rfl
theorem ft_7_22 : zFR 7 22 := ⟨by decide, by decide, Or.inl ⟨_, rfl⟩⟩
theorem ft_7_23 : zFR 7 23 := ⟨by decide, by decide, Or.inl ⟨_, rfl⟩⟩
theorem ft_7_24 : zFR 7 24 := ⟨by decide, by decide, Or.inl ⟨_, rfl⟩⟩
theorem ft_7_25 : zFR 7 25 := ⟨by decide, by decide, Or.inl ⟨_, rfl⟩⟩
theorem ft_7_26 : zFR 7 26 := ⟨by decide, by decide, Or.inl ⟨_, rfl⟩⟩
theorem ft_7_27 : zFI 7 27 := ⟨by decide, by decide, rfl⟩
theorem fp_7_27 : zFP 7 27 := rfl
theorem ft_7_28 : zFR 7 28 := ⟨by decide, by decide, Or.inl ⟨_, rfl⟩⟩
def zLd (B : Nat) : Prop := B = 1 ∨ B = 10 ∨ B = 20 ∨ B = 29
theorem zLd_1 : zLd 1 := Or.inl rfl
theorem zLd_10 : zLd 10 := Or.inr (Or.inl rfl)
theorem zLd_20 : zLd 20 := Or.inr (Or.inr (Or.inl rfl))
theorem zLd_29 : zLd 29 := Or.inr (Or.inr (Or.inr rfl))
theorem zLd.ob {B : Nat} (h : zLd B) : zOb B 2 := by rcases h with rfl | rfl | rfl | rfl <;> exact ⟨by decide, rfl⟩
theorem zLd.rf {B : Nat} (h : zLd B) (j : Nat) : zrf B j = B + 1 + j := by rcases h with rfl | rfl | rfl | rfl <;> rfl
theorem zLd.rf' {B : Nat} (h : zLd B) (j k : Nat) (hk : k = j + 1) : zrf B j = B + k := by rw [h.rf, hk]; omega
theorem zLd.a1 {B : Nat} (h : zLd B) : zAr (B + 1) 0 6 := by rcases h with rfl | rfl | rfl | rfl <;> exact ⟨by decide, rfl⟩
theorem zLd.a2 {B : Nat} (h : zLd B) : zAr (B + 2) 0 6 := by rcases h with rfl | rfl | rfl | rfl <;> exact ⟨by decide, rfl⟩
theorem zLd.a3 {B : Nat} (h : zLd B) : zAr (B + 3) 0 6 := by rcases h with rfl | rfl | rfl | rfl <;> exact ⟨by decide, rfl⟩
theorem zLd.a4 {B : Nat} (h : zLd B) : zAr (B + 4) 0 4 := by rcases h with rfl | rfl | rfl | rfl <;> exact ⟨by decide, rfl⟩
theorem zLd.a5 {B : Nat} (h : zLd B) : zAr (B + 5) 0 4 := by rcases h with rfl | rfl | rfl | rfl <;> exact ⟨by decide, rfl⟩
theorem zLd.a6 {B : Nat} (h : zLd B) : zAr (B + 6) 0 6 := by rcases h with rfl | rfl | rfl | rfl <;> exact ⟨by decide, rfl⟩
theorem zLd.a7 {B : Nat} (h : zLd B) : zAr (B + 7) 0 6 := by rcases h with rfl | rfl | rfl | rfl <;> exact ⟨by decide, rfl⟩
theorem zLd.a8 {B : Nat} (h : zLd B) : zAr (B + 8) 0 6 := by rcases h with rfl | rfl | rfl | rfl <;> exact ⟨by decide, rfl⟩
theorem zLd.r0 {B : Nat} (h : zLd B) : zrf B 0 = B + 1 := h.rf' 0 1 rfl
theorem zLd.r1 {B : Nat} (h : zLd B) : zrf B 1 = B + 2 := h.rf' 1 2 rfl
theorem zLd.r2 {B : Nat} (h : zLd B) : zrf B 2 = B + 3 := h.rf' 2 3 rfl
theorem zLd.r3 {B : Nat} (h : zLd B) : zrf B 3 = B + 4 := h.rf' 3 4 rfl
theorem zLd.r4 {B : Nat} (h : zLd B) : zrf B 4 = B + 5 := h.rf' 4 5 rfl
theorem zLd.r5 {B : Nat} (h : zLd B) : zrf B 5 = B + 6 := h.rf' 5 6 rfl
theorem zLd.r6 {B : Nat} (h : zLd B) : zrf B 6 = B + 7 := h.rf' 6 7 rfl
theorem zLd.r7 {B : Nat} (h : zLd B) : zrf B 7 = B + 8 := h.rf' 7 8 rfl
theorem cn_0 (M : ZM) (h : M.1.cls = RX0) : 0 < 8 ∧ (zC 0).1 = M.1.cls := ⟨by decide, h.symm⟩
theorem cn_1 (M : ZM) (h : M.1.cls = RX1) : 1 < 8 ∧ (zC 1).1 = M.1.cls := ⟨by decide, h.symm⟩
theorem cn_2 (M : ZM) (h : M.1.cls = RX2) : 2 < 8 ∧ (zC 2).1 = M.1.cls := ⟨by decide, h.symm⟩
theorem cn_3 (M : ZM) (h : M.1.cls = RX3) : 3 < 8 ∧ (zC 3).1 = M.1.cls := ⟨by decide, h.symm⟩
theorem cn_4 (M : ZM) (h : M.1.cls = RX4) : 4 < 8 ∧ (zC 4).1 = M.1.cls := ⟨by decide, h.symm⟩
theorem cn_5 (M : ZM) (h : M.1.cls = RX5) : 5 < 8 ∧ (zC 5).1 = M.1.cls := ⟨by decide, h.symm⟩
theorem cn_6 (M : ZM) (h : M.1.cls = RX6) : 6 < 8 ∧ (zC 6).1 = M.1.cls := ⟨by decide, h.symm⟩
theorem cn_7 (M : ZM) (h : M.1.cls = RX7) : 7 < 8 ∧ (zC 7).1 = M.1.cls := ⟨by decide, h.symm⟩
theorem w_max : Cond.static Lib.Math.max.name ∈ zW ∧ Cond.initialized "java/lang/Math" ∈ zW ∧ Cond.code Lib.Math.max.name Lib.Math.max.code 2 (some .int) ∈ zW := ⟨(zg_2_1 _ (List.mem_of_getElem? (i := 15) rfl) rfl), ini_J9, (zg_2_1 _ (List.mem_of_getElem? (i := 16) rfl) rfl)⟩
theorem w_min : Cond.static Lib.Math.min.name ∈ zW ∧ Cond.initialized "java/lang/Math" ∈ zW ∧ Cond.code Lib.Math.min.name Lib.Math.min.code 2 (some .int) ∈ zW := ⟨(zg_3_0 _ (List.mem_of_getElem? (i := 9) rfl) rfl), ini_J9, (zg_3_0 _ (List.mem_of_getElem? (i := 10) rfl) rfl)⟩
theorem w_copy : Cond.native arraycopyName ∈ zW ∧ Cond.static arraycopyName ∈ zW ∧ Cond.initialized "java/lang/System" ∈ zW := ⟨(zg_2_4 _ (List.mem_of_getElem? (i := 30) rfl) rfl), (zg_2_4 _ (List.mem_of_getElem? (i := 29) rfl) rfl), ini_J10⟩
theorem ml_X2_55 : Cond.methodLink RX2 55 arraycopyName ∈ zW := (zg_2_4 _ (List.mem_of_getElem? (i := 28) rfl) rfl)
theorem ml_X3_46 : Cond.methodLink RX3 46 arraycopyName ∈ zW := (zg_3_2 _ (List.mem_of_getElem? (i := 2) rfl) rfl)
section ZR5
variable {d : Nat} {M : ZM} {pc pc' ix : Nat} {ls : List (Option Value)} {st : List Value} {S : ZSt} {Q : Option Value → ZSt → Prop}

theorem s_mmax {x y : Int32} (h : zD M.2.1 pc (.invokestatic ix) 3 pc') (hl0 : Cond.methodLink M.1.cls ix Lib.Math.max.name ∈ zW) (hw : (st.map fun v => v.category).sum ≤ 8) (hd : 0 < d) (k : zSem d M pc' ls (.int (if x < y then y else x) :: st) S Q) : zSem d M pc ls (.int y :: .int x :: st) S Q := by
  intro p l e R s m args below meth c D ad cA H locs ls' C hP hS hl
  obtain ⟨h1, rfl⟩ := h
  have hz := zcat ad st
  have hf := C.2.2.2.2.2.2.2.1
  have hlo := C.2.2.2.2.2.2.2.2.1
  exact va_mmax C.1 C.2.1 (C.2.2.1.trans hl.1.1.symm) C.2.2.2.1 (C.2.2.2.2.1 _ hl0 args) (C.2.2.2.2.1 _ w_max.1 args) (C.2.2.2.2.1 _ w_max.2.1 args) (C.2.2.2.2.1 _ w_max.2.2 args) (by omega) (by rw [hz]; omega) (Nat.zero_le _) (Nat.zero_le _) h1 (k p l e R s m args below meth c D ad cA H locs ls' C hP hS hl)
theorem s_mmin {x y : Int32} (h : zD M.2.1 pc (.invokestatic ix) 3 pc') (hl0 : Cond.methodLink M.1.cls ix Lib.Math.min.name ∈ zW) (hw : (st.map fun v => v.category).sum ≤ 8) (hd : 0 < d) (k : zSem d M pc' ls (.int (if y < x then y else x) :: st) S Q) : zSem d M pc ls (.int y :: .int x :: st) S Q := by
  intro p l e R s m args below meth c D ad cA H locs ls' C hP hS hl
  obtain ⟨h1, rfl⟩ := h
  have hz := zcat ad st
  have hf := C.2.2.2.2.2.2.2.1
  have hlo := C.2.2.2.2.2.2.2.2.1
  exact va_mmin C.1 C.2.1 (C.2.2.1.trans hl.1.1.symm) C.2.2.2.1 (C.2.2.2.2.1 _ hl0 args) (C.2.2.2.2.1 _ w_min.1 args) (C.2.2.2.2.1 _ w_min.2.1 args) (C.2.2.2.2.1 _ w_min.2.2 args) (by omega) (by rw [hz]; omega) (Nat.zero_le _) (Nat.zero_le _) h1 (k p l e R s m args below meth c D ad cA H locs ls' C hP hS hl)
theorem s_acopy {b b' n n' : Nat} {sp dp q : Int32} (h : zD M.2.1 pc (.invokestatic ix) 3 pc') (hl0 : Cond.methodLink M.1.cls ix arraycopyName ∈ zW) (hb : zAr b 0 n) (hb' : zAr b' 0 n') (hw : (st.map fun v => v.category).sum ≤ 8) (hd : 0 < d) (h3 : ¬ sp < 0) (h4 : ¬ dp < 0) (h5 : ¬ q < 0) (h6 : sp.toNatClampNeg + q.toNatClampNeg ≤ n) (h7 : dp.toNatClampNeg + q.toNatClampNeg ≤ n') (k : zSem d M pc' ls st (cpI S b b' sp.toNatClampNeg dp.toNatClampNeg q.toNatClampNeg) Q) : zSem d M pc ls (.int q :: .int dp :: .ref b' :: .int sp :: .ref b :: st) S Q := by
  intro p l e R s m args below meth c D ad cA H locs ls' C hP hS hl
  obtain ⟨h1, rfl⟩ := h
  have hz := zcat ad st
  have hf := C.2.2.2.2.2.2.2.1
  have hlo := C.2.2.2.2.2.2.2.2.1
  exact va_copyi C.1 C.2.1 (C.2.2.1.trans hl.1.1.symm) C.2.2.2.1 (C.2.2.2.2.1 _ hl0 args) (C.2.2.2.2.1 _ w_copy.1 args) (C.2.2.2.2.1 _ w_copy.2.1 args) (C.2.2.2.2.1 _ w_copy.2.2 args) C.2.2.2.2.2.2.2.2.2.1 hP (zws_D ad cA S C.2.2.2.2.2.2.2.2.2.2.1) hS b b' 0 0 (zat_arI hb (by decide)) (zat_arI hb' (by decide)) rfl rfl rfl h3 h4 h5 h6 h7 (fun i _ => rfl) (by omega) (by rw [hz, show nativeFrameWords "java/lang/System" "arraycopy" 5 + 11 = 18 from rfl]; omega) h1 (fun H1 locs1 hP1 _ hS1 => k p l e R s m args below meth c D ad cA H1 locs1 ls' C (by rw [← zset_cp hb']; exact hP1) hS1 hl)
end ZR5
