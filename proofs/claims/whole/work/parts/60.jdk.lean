/-! THE JDK's OWN: length, charAt of the String constants -/
theorem fl_J0_9 : Cond.fieldLink "java/lang/String" 9 "java/lang/String" "value" "[B" ∈ zW := zg_5_7 _ (List.mem_of_getElem? (i := 12) rfl) rfl
theorem fl_J0_15 : Cond.fieldLink "java/lang/String" 15 "java/lang/String" "coder" "B" ∈ zW := zg_5_7 _ (List.mem_of_getElem? (i := 13) rfl) rfl
theorem fl_J0_38 : Cond.fieldLink "java/lang/String" 38 "java/lang/String" "COMPACT_STRINGS" "Z" ∈ zW := zg_2_2 _ (List.mem_of_getElem? (i := 14) rfl) rfl
theorem fl_J0_1053 : Cond.fieldLink "java/lang/String" 1053 "jdk/internal/util/Preconditions" "SIOOBE_FORMATTER" "Ljava/util/function/BiFunction;" ∈ zW := zg_2_2 _ (List.mem_of_getElem? (i := 30) rfl) rfl
def nLen (i : Nat) : Nat := zlens.getD i 0
def nByt (i j : Nat) : Int32 := (zbyts.getD i []).getD j 0
section ZJ
variable {d d' : Nat} {M M' : ZM} {pc pc' n ix i : Nat} {ls : List (Option Value)} {st stk As : List Value} {S : ZSt} {Q Q' : Option Value → ZSt → Prop}
theorem s_getSv (h : zD M.2.1 pc (.getfield 9) 3 pc') (hM : M.1.cls = "java/lang/String") (hi : i < 6) (k : zSem d M pc' ls (.ref (80 + i) :: st) S Q) : zSem d M pc ls (.ref (70 + i) :: st) S Q := by
  intro p l e R s m args below meth c D ad cA H locs ls' C hP hS hl
  obtain ⟨h1, rfl⟩ := h
  exact vk_getf C.1 C.2.1 (C.2.2.2.2.2.2.2.2.2.2.2.1.1 i hi).2.2.1 hS C.2.2.2.1 (by rw [hM]; exact C.2.2.2.2.1 _ fl_J0_9 args) (fun _ h9 => h9) h1 (k p l e R s m args below meth c D ad cA H locs ls' C hP hS hl)
theorem s_getSc (h : zD M.2.1 pc (.getfield 15) 3 pc') (hM : M.1.cls = "java/lang/String") (hi : i < 6) (k : zSem d M pc' ls (.int 0 :: st) S Q) : zSem d M pc ls (.ref (70 + i) :: st) S Q := by
  intro p l e R s m args below meth c D ad cA H locs ls' C hP hS hl
  obtain ⟨h1, rfl⟩ := h
  exact vk_getf C.1 C.2.1 (C.2.2.2.2.2.2.2.2.2.2.2.1.1 i hi).2.1 hS C.2.2.2.1 (by rw [hM]; exact C.2.2.2.2.1 _ fl_J0_15 args) (fun _ h9 => h9) h1 (k p l e R s m args below meth c D ad cA H locs ls' C hP hS hl)
theorem s_getCS (h : zD M.2.1 pc (.getstatic 38) 3 pc') (hM : M.1.cls = "java/lang/String") (k : zSem d M pc' ls (.int 1 :: st) S Q) : zSem d M pc ls st S Q := by
  intro p l e R s m args below meth c D ad cA H locs ls' C hP hS hl
  obtain ⟨h1, rfl⟩ := h
  exact va_gets C.1 C.2.1 C.2.2.2.2.2.2.2.2.2.2.2.2.2.1 hS C.2.2.2.1 (by rw [hM]; exact C.2.2.2.2.1 _ fl_J0_38 args) (fun _ h9 => h9) h1 (k p l e R s m args below meth c D ad cA H locs ls' C hP hS hl)
theorem s_alenS (h : zD M.2.1 pc (.arraylength) 1 pc') (hi : i < 6) (k : zSem d M pc' ls (.int (nI (nLen i)) :: st) S Q) : zSem d M pc ls (.ref (80 + i) :: st) S Q := by
  intro p l e R s m args below meth c D ad cA H locs ls' C hP hS hl
  obtain ⟨h1, rfl⟩ := h
  exact va_tlen C.1 C.2.1 (C.2.2.2.2.2.2.2.2.2.2.2.1.1 i hi).2.2.2 hS rfl h1 (k p l e R s m args below meth c D ad cA H locs ls' C hP hS hl)
theorem s_baldS {j : Nat} (h : zD M.2.1 pc (.baload) 1 pc') (hi : i < 6) (hj : j < nLen i) (hj2 : j < 1000) (k : zSem d M pc' ls (.int (nByt i j) :: st) S Q) : zSem d M pc ls (.int (nI j) :: .ref (80 + i) :: st) S Q := by
  intro p l e R s m args below meth c D ad cA H locs ls' C hP hS hl
  obtain ⟨h1, rfl⟩ := h
  have hn : zlens.getD i 0 < 2147483648 := by
    have : ∀ i, i < 6 → zlens.getD i 0 < 2147483648 := by decide
    exact this i hi
  exact va_tb C.1 C.2.1 (C.2.2.2.2.2.2.2.2.2.2.2.1.1 i hi).2.2.2 hS (i := nI j) (vp_in_nI hj hn) (v := .int (nByt i j)) (by show Value.int ((zbyts.getD i []).getD (nI j).toNatClampNeg 0) = _; rw [nI_clamp (by omega)]; rfl) h1 (k p l e R s m args below meth c D ad cA H locs ls' C hP hS hl)
theorem s_i2c {x v : Int32} (h : zD M.2.1 pc (.i2c) 1 pc') (hv : (x.toUInt32 % 65536).toInt32 = v) (k : zSem d M pc' ls (.int v :: st) S Q) : zSem d M pc ls (.int x :: st) S Q := by
  intro p l e R s m args below meth c D ad cA H locs ls' C hP hS hl
  obtain ⟨h1, rfl⟩ := h
  exact lv_i2c C.1 C.2.1 h1 hv (k p l e R s m args below meth c D ad cA H locs ls' C hP hS hl)
theorem s_nreturn {x : Int32} {ty : FieldType} (h : zD M.2.1 pc (.ireturn) 1 pc') (hM : M.2.2.2 = some ty) (hx : narrow ty (.int x) = .int x) (hq : Q (some (.int x)) S) : zSem d M pc ls [.int x] S Q := by
  intro p l e R s m args below meth c D ad cA H locs ls' C hP hS hl
  exact W.zret (v := x) C.1 C.2.1 (C.2.2.2.2.2.1.trans hM) hx (fun t ht hW => ⟨⟨some (.int x), S, rfl, hq, by rw [ht]; exact hP⟩, hS.F ht⟩) hS.2.2 h.1 (hlocks := C.2.2.2.2.2.2.1)
theorem s_callVS (h : zD M.2.1 pc (.invokevirtual ix) 3 pc') (hl : zML M.1.cls ix M') (cw : zCW M' n) (iw : zIW M') (hi : i < 6) (hc : M'.1.cls = "java/lang/String") (hst : stk = As.reverse ++ .ref (70 + i) :: st) (hn : As.length = n) (hw : (st.map fun v => v.category).sum ≤ 8) (hE : zEv d' M' (.ref (70 + i) :: As) S Q') (hd : d' < d) (k : ∀ (r : Option Value) (S' : ZSt), Q' r S' → zSem d M pc' ls (zpush r st) S' Q) : zSem d M pc ls stk S Q := by
  intro p l e R s m args below meth c D ad cA H locs ls' C hP hS hl'
  obtain ⟨h1, rfl⟩ := h
  subst hst
  have hrun := va_runV (p := p) (e := e) (R := R) (below := below) (meth := meth) (locs := locs) (cells := 0) (slots := 0) (g := F0 m pc ls' (List.map (cv ad) (As.reverse ++ .ref (70 + i) :: st))) (As := As.map (cv ad)) (rest := st.map (cv ad)) ⟨C.1, C.2.1, C.2.2.1, C.2.2.2.1, fun w hw => C.2.2.2.2.1 w hw args⟩ (hE l D ad cA { frames := d', cells := 0, slots := 0, locals := 36 * d' } rfl rfl (Nat.le_refl _) (Nat.le_refl _)) ⟨z_CB C.2.2.2.2.1 cw hd C.2.2.2.2.2.2.2.1 C.2.2.2.2.2.2.2.2.1 (C.2.2.2.2.1 _ hl args), C.2.2.2.2.1 _ iw.1 args, C.2.2.2.2.1 _ iw.2 args⟩ ⟨zblind D ad cA (.ref (70 + i) :: As) S, by rw [hc]; exact vk_recv (i := i) (adK := fun i => ad (70 + i)) C.2.2.2.2.2.2.2.2.2.2.2.1 hi hS, z_pre (vs := .ref (70 + i) :: As) C.2.2.2.2.1 C.2.2.2.2.2.2.2.2.2.1 C.2.2.2.2.2.2.2.2.2.2.1 C.2.2.2.2.2.2.2.2.2.2.2 hP hS⟩ rfl (by rw [List.length_map]; exact hn) hl'.1.1 (by simp [List.map_append, List.map_reverse, cv]) (lv_room (by rw [zcat]; exact hw)) h1 ⟨Nat.zero_le _, Nat.zero_le _⟩
  refine z_go hrun hS (fun r S' H1 locs1 hq hP1 hS1 => ?_)
  have hk := k r S' hq p l e R s m args below meth c D ad cA H1 locs1 ls' C hP1 hS1 hl'
  rw [zpush_map] at hk
  exact hk
theorem s_vS0 {S0 : ZSt} {v : Int32} (h : zD M.2.1 pc (.invokevirtual ix) 3 pc') (hl : zML M.1.cls ix M') (cw : zCW M' 0) (iw : zIW M') (hi : i < 6) (hc : M'.1.cls = "java/lang/String") (hw : (st.map fun v => v.category).sum ≤ 8) (hE : zEv d' M' (.ref (70 + i) :: []) S (zX (some (.int v)) S0)) (hd : d' < d) (k : zSem d M pc' ls (.int v :: st) S0 Q) : zSem d M pc ls (.ref (70 + i) :: st) S Q := s_callVS (As := []) (st := st) h hl cw iw hi hc rfl rfl hw hE hd (fun r S' q => by obtain ⟨rfl, rfl⟩ := q; exact k)
theorem s_vS1 {S0 : ZSt} {v : Int32} {x1 : Value} (h : zD M.2.1 pc (.invokevirtual ix) 3 pc') (hl : zML M.1.cls ix M') (cw : zCW M' 1) (iw : zIW M') (hi : i < 6) (hc : M'.1.cls = "java/lang/String") (hw : (st.map fun v => v.category).sum ≤ 8) (hE : zEv d' M' (.ref (70 + i) :: [x1]) S (zX (some (.int v)) S0)) (hd : d' < d) (k : zSem d M pc' ls (.int v :: st) S0 Q) : zSem d M pc ls (x1 :: .ref (70 + i) :: st) S Q := s_callVS (As := [x1]) (st := st) h hl cw iw hi hc rfl rfl hw hE hd (fun r S' q => by obtain ⟨rfl, rfl⟩ := q; exact k)
end ZJ
theorem ev_coder {d : Nat} (S : ZSt) (i : Nat) (hi : i < 6) : zEv d mJ0_coder_7d493 [.ref (70 + i)] S (zX (some (.int 0)) S) :=
  zEv.of cw_J0_coder_7d493 (Nat.le_of_ble_eq_true rfl) rfl (s_getCS dJ0_coder_7d493_0 rfl (s_if_eq dJ0_coder_7d493_3 (fun c => absurd c (by decide)) (fun _ => s_aload_n dJ0_coder_7d493_6 rfl (s_getSc dJ0_coder_7d493_7 rfl hi (s_goto dJ0_coder_7d493_10 (s_nreturn dJ0_coder_7d493_14 rfl rfl ⟨rfl, rfl⟩))))))
theorem nLen_le : ∀ i, i < 6 → nLen i ≤ 5 := by decide
theorem ev_length {d : Nat} (hd : 1 ≤ d) (S : ZSt) (i : Nat) (hi : i < 6) : zEv d mJ0_length_8abf5 [.ref (70 + i)] S (zX (some (.int (nI (nLen i)))) S) := by
  obtain ⟨d, rfl⟩ : ∃ d', d = d' + 1 := ⟨d - 1, by omega⟩
  have hl := nLen_le i hi
  refine zEv.of cw_J0_length_8abf5 (Nat.le_of_ble_eq_true rfl) rfl (s_aload_n dJ0_length_8abf5_0 rfl (s_getSv dJ0_length_8abf5_1 rfl hi (s_alenS dJ0_length_8abf5_4 hi (s_aload_n dJ0_length_8abf5_5 rfl (s_vS0 dJ0_length_8abf5_6 ml_J0_335 cw_J0_coder_7d493 iw_J0_coder_7d493 hi rfl (Nat.le_of_ble_eq_true rfl) (ev_coder S i hi) (Nat.lt_succ_self _) (s_ishr dJ0_length_8abf5_9 (s_ireturn dJ0_length_8abf5_10 rfl ?_)))))))
  rw [sc_shr0 (by omega)]
  exact ⟨rfl, rfl⟩
theorem ev_isLatin1 {d : Nat} (S : ZSt) (i : Nat) (hi : i < 6) : zEv d mJ0_isLatin1_aae02 [.ref (70 + i)] S (zX (some (.int 1)) S) :=
  zEv.of cw_J0_isLatin1_aae02 (Nat.le_of_ble_eq_true rfl) rfl (s_getCS dJ0_isLatin1_aae02_0 rfl (s_if_eq dJ0_isLatin1_aae02_3 (fun c => absurd c (by decide)) (fun _ => s_aload_n dJ0_isLatin1_aae02_6 rfl (s_getSc dJ0_isLatin1_aae02_7 rfl hi (s_if_ne dJ0_isLatin1_aae02_10 (fun c => absurd rfl c) (fun _ => s_iconst (v := 1) dJ0_isLatin1_aae02_13 c_ic_1 (s_goto dJ0_isLatin1_aae02_14 (s_zreturn dJ0_isLatin1_aae02_18 rfl (Or.inr rfl) ⟨rfl, rfl⟩))))))))
/-- Preconditions.checkIndex, of a place that is there: whatever its third argument -/
theorem m_check {l : Launch} {D : va_G} {ad : Nat → Nat} {cA : Nat → ClassId} {rm : Room} {S : ZSt} (a n : Nat) (ha : a < n) (hn : n < 2147483648) (v : Value) (hv : v.category = 1) : Met l mJ3_checkIndex_8e157.1 [.code mJ3_checkIndex_8e157.1 mJ3_checkIndex_8e157.2.1 mJ3_checkIndex_8e157.2.2.1 mJ3_checkIndex_8e157.2.2.2] rm (va_Pc [.int (nI a), .int (nI n), v] (fun U => va_P D vwCl (zws ad cA S) U.heap ∧ va_K D vwCl (ztys cA) U ∧ zTb U ∧ zInj ad ∧ zExt ad U U.heap)) (zQc D ad cA (zX (some (.int (nI a))) S)) 0 0 (zA ad) := by
  refine Met.ofW (cc := mJ3_checkIndex_8e157.2.1) (maxL := 3) (ret := some .int) cw_J3_checkIndex_8e157.2.2.2.2 rfl ?_
  intro p e s m args below meth c s₁ B hml hpre
  obtain ⟨rfl, hP, hK, hT, hI, hE⟩ := hpre
  have hx := B.exec
  have hb := B.bytes
  have hlocks := B.notSynchronized
  have hS : va_S (zA ad) s.heap s.heap [] := va_S.rf
  have e3 : lg_sl [Value.int (nI a), Value.int (nI n), v] = [.val (.int (nI a)), .val (.int (nI n)), .val v] := by
    simp only [lg_sl, List.flatMap_cons, List.flatMap_nil, hv]; rfl
  have hl := lv_entry ([.int (nI a), .int (nI n), v]) (n := 3) (by rw [e3]; exact Nat.le_refl 3)
  rw [lg_entry_eq]
  generalize (lg_sl ([.int (nI a), .int (nI n), v]) ++ List.replicate (3 - (lg_sl ([.int (nI a), .int (nI n), v])).length) Slot.unset).toArray = ls at hl ⊢
  refine lv_iload_n hx hb dJ3_checkIndex_8e157_0.1 rfl (lv_at hl 0 rfl) ?_
  obtain ⟨o1, e1, g1, -⟩ := dJ3_checkIndex_8e157_1
  refine lv_if_lt (tgt := 9) hx hb e1 g1 (fun c => absurd c (nI_pos (by omega))) (fun _ => ?_)
  refine lv_iload_n hx hb dJ3_checkIndex_8e157_4.1 rfl (lv_at hl 0 rfl) ?_
  refine lv_iload_n hx hb dJ3_checkIndex_8e157_5.1 rfl (lv_at hl 1 rfl) ?_
  obtain ⟨o2, e2, g2, -⟩ := dJ3_checkIndex_8e157_6
  refine lv_icmp_lt (tgt := 16) hx hb e2 g2 (fun _ => ?_) (fun c => absurd (nI_lt ha (by omega)) c)
  refine lv_iload_n hx hb dJ3_checkIndex_8e157_16.1 rfl (lv_at hl 0 rfl) ?_
  exact W.iret (v := nI a) hx hb B.returns (fun t ht hW => ⟨⟨some (.int (nI a)), S, rfl, ⟨rfl, rfl⟩, by rw [ht]; exact hP⟩, hS.F ht⟩) hS.2.2 dJ3_checkIndex_8e157_17.1
theorem s_fmt {d a n : Nat} {ls : List (Option Value)} {S : ZSt} {Q : Option Value → ZSt → Prop} (hd : 0 < d) (ha : a < n) (hn : n < 2147483648) (k : zSem d mJ0_checkIndex_df160 8 ls [.int (nI a)] S Q) : zSem d mJ0_checkIndex_df160 2 ls [.int (nI n), .int (nI a)] S Q := by
  intro p l e R s m args below meth c D ad cA H locs ls' C hP hS hl'
  have go : ∀ v : Value, v.category = 1 → W p l e R s m args below meth c H locs 0 0 (MQ below (zQc D ad cA Q) args s 0 0 (zA ad)) (F0 m 5 ls' [v, .int (nI n), .int (nI a)]) := by
    intro v hv
    have hrun := va_runS (p := p) (e := e) (R := R) (below := below) (meth := meth) (locs := locs) (cells := 0) (slots := 0) (g := F0 m 5 ls' [v, .int (nI n), .int (nI a)]) (As := [.int (nI a), .int (nI n), v]) (rest := []) ⟨C.1, C.2.1, C.2.2.1, C.2.2.2.1, fun w hw => C.2.2.2.2.1 w hw args⟩ (m_check (l := l) (D := D) (ad := ad) (cA := cA) (rm := { frames := 0, cells := 0, slots := 0, locals := 36 * 0 }) (S := S) a n ha hn v hv) ⟨z_CB C.2.2.2.2.1 cw_J3_checkIndex_8e157 hd C.2.2.2.2.2.2.2.1 C.2.2.2.2.2.2.2.2.1 (C.2.2.2.2.1 _ ml_J0_1059 args), C.2.2.2.2.1 _ sw_J3_checkIndex_8e157 args⟩ ⟨fun a U g mk h => by
      obtain ⟨h1, h2, h3, h4, h5, h6⟩ := h
      have hv : U.vm = (U.calling g mk a).vm := rfl
      exact ⟨h1, h2, va_K.moved (u := U) (U := U.calling g mk a) (Vm.Alike.refl U.vm) h3, h4.same hv, h5, h6.1.moved (Vm.Alike.refl U.vm), fun i q hi => (h6.2.1 i q hi).same hv.symm, h6.2.2.1.moved (Vm.Alike.refl U.vm), h6.2.2.2.moved (Vm.Alike.refl U.vm)⟩, fun U hU hW => ⟨rfl, by rw [hU]; exact hP, va_K.moved hW.alike C.2.2.2.2.2.2.2.2.2.1, C.2.2.2.2.1.warm hW, C.2.2.2.2.2.2.2.2.2.2.1, by rw [hU]; exact (C.2.2.2.2.2.2.2.2.2.2.2.kept hS.2.1).warm hW⟩⟩ rfl rfl hl'.1.1 rfl (lv_room (Nat.le_of_ble_eq_true rfl)) dJ0_checkIndex_df160_5.1 ⟨Nat.zero_le _, Nat.zero_le _⟩
    refine z_go hrun hS (fun r S' H1 locs1 hq hP1 hS1 => ?_)
    obtain ⟨rfl, rfl⟩ := hq
    exact k p l e R s m args below meth c D ad cA H1 locs1 ls' C hP1 hS1 hl'
  rcases C.2.2.2.2.2.2.2.2.2.2.2.2.2.2 with hZ | ⟨t, hZ⟩
  · exact va_gets C.1 C.2.1 hZ hS C.2.2.2.1 (C.2.2.2.2.1 _ fl_J0_1053 args) (fun _ h9 => h9) dJ0_checkIndex_df160_2.1 (go .null rfl)
  · exact va_gets C.1 C.2.1 hZ hS C.2.2.2.1 (C.2.2.2.2.1 _ fl_J0_1053 args) (fun _ h9 => h9) dJ0_checkIndex_df160_2.1 (go (.ref t) rfl)
theorem ev_checkIndex {d : Nat} (hd : 1 ≤ d) (S : ZSt) (a n : Nat) (ha : a < n) (hn : n < 2147483648) : zEv d mJ0_checkIndex_df160 [.int (nI a), .int (nI n)] S (zX none S) :=
  zEv.of cw_J0_checkIndex_df160 (Nat.le_of_ble_eq_true rfl) rfl (s_iload_n dJ0_checkIndex_df160_0 rfl (s_iload_n dJ0_checkIndex_df160_1 rfl (s_fmt hd ha hn (s_pop dJ0_checkIndex_df160_8 rfl (s_return dJ0_checkIndex_df160_9 rfl ⟨rfl, rfl⟩)))))
theorem ev_chL {d : Nat} (hd : 2 ≤ d) (S : ZSt) (i j : Nat) (hi : i < 6) (hj : j < nLen i) : zEv d mJ1_charAt_3b067 [.ref (80 + i), .int (nI j)] S (zX (some (.int (nByt i j &&& 255))) S) := by
  obtain ⟨d, rfl⟩ : ∃ d', d = d' + 1 := ⟨d - 1, by omega⟩
  have hl := nLen_le i hi
  refine zEv.of cw_J1_charAt_3b067 (Nat.le_of_ble_eq_true rfl) rfl (s_iload_n dJ1_charAt_3b067_0 rfl (s_aload_n dJ1_charAt_3b067_1 rfl (s_alenS dJ1_charAt_3b067_2 hi (s_cS2V dJ1_charAt_3b067_3 ml_J1_9 cw_J0_checkIndex_df160 sw_J0_checkIndex_df160 (Nat.le_of_ble_eq_true rfl) (ev_checkIndex (d := d) (by omega) S j (nLen i) hj (by omega)) (Nat.lt_succ_self _) (s_aload_n dJ1_charAt_3b067_6 rfl (s_iload_n dJ1_charAt_3b067_7 rfl (s_baldS dJ1_charAt_3b067_8 hi hj (by omega) (s_sipush (v := 255) dJ1_charAt_3b067_9 (by decide) (s_iand dJ1_charAt_3b067_12 (s_i2c dJ1_charAt_3b067_13 (sc_c2 _) (s_nreturn dJ1_charAt_3b067_14 rfl (sc_nar _) ⟨rfl, rfl⟩)))))))))))
theorem ev_charAt {d : Nat} (hd : 3 ≤ d) (S : ZSt) (i j : Nat) (hi : i < 6) (hj : j < nLen i) : zEv d mJ0_charAt_5068e [.ref (70 + i), .int (nI j)] S (zX (some (.int (nByt i j &&& 255))) S) := by
  obtain ⟨d, rfl⟩ : ∃ d', d = d' + 1 := ⟨d - 1, by omega⟩
  exact zEv.of cw_J0_charAt_5068e (Nat.le_of_ble_eq_true rfl) rfl (s_aload_n dJ0_charAt_5068e_0 rfl (s_vS0 dJ0_charAt_5068e_1 ml_J0_492 cw_J0_isLatin1_aae02 iw_J0_isLatin1_aae02 hi rfl (Nat.le_of_ble_eq_true rfl) (ev_isLatin1 (d := d) S i hi) (Nat.lt_succ_self _) (s_if_eq dJ0_charAt_5068e_4 (fun c => absurd c (by decide)) (fun _ => s_aload_n dJ0_charAt_5068e_7 rfl (s_getSv dJ0_charAt_5068e_8 rfl hi (s_iload_n dJ0_charAt_5068e_11 rfl (s_cS2I dJ0_charAt_5068e_12 ml_J0_495 cw_J1_charAt_3b067 sw_J1_charAt_3b067 (Nat.le_of_ble_eq_true rfl) (ev_chL (d := d) (by omega) S i j hi hj) (Nat.lt_succ_self _) (s_nreturn dJ0_charAt_5068e_15 rfl (sc_nar _) ⟨rfl, rfl⟩))))))))
