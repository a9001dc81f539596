/-! THE CONSTRUCTORS OF THE SMALL CLASSES -/
theorem cMet.of {M : ZM} {ci : Nat} {fs : List Value} {mk : (Nat → Nat) → (Nat → ClassId) → va_W} {rm : Room} {mc ms : Nat} (cw : zCW M 0) (h1 : M.2.2.1 = 1) (hr : M.2.2.2 = none) (hn : M.1.name = "<init>") (hrm : 1 ≤ rm.frames ∧ 12 ≤ rm.locals)
    (h : ∀ (p : Program) (l : Launch) (e : Env) (s : State) (m : MethodId) (args : Array Value) (below : List Frame) (meth : Method) (c : Code) (D : va_G) (cA : Nat → ClassId) (h0 : Nat) (A : Nat → Prop) (ls : Array Slot), cX p rm s m meth c D cA M A ls h0 → cS p l e rm s m args below meth c D A ls (MQ below (va_Qv (fun u : Nat → Nat => u 0 = h0) (fun u t => va_P D vwCl (mk u cA) t.heap ∧ va_D A (mk u cA)) A) args s mc ms A) 0 [] [(h0, .inr (ci, fs))] 0 0) : cMet M ci fs mk rm mc ms := by
  intro l D cA h0 sz
  refine Met.ofW (cc := M.2.1) (maxL := M.2.2.1) (ret := M.2.2.2) cw.2.2.2.2 rfl ?_
  intro p e s m args below meth c s₁ B hml hpre
  obtain ⟨rfl, hsz, hP, hK, hT, hAC⟩ := hpre
  subst hsz
  rw [lg_entry_eq]
  have hle := lv_entry [Value.ref h0] (n := M.2.2.1) (by rw [h1]; exact Nat.le_refl 1)
  refine h p l e s m _ below meth c D cA h0 _ _ ⟨B.exec, B.bytes, hml, findClass_of_methodNamed B.named, hT, by rw [← hr]; exact B.returns, B.notSynchronized, (name_of_methodNamed B.named B.method).1.trans hn, hK, hAC, hle, fun q hq => Or.inr hq, hrm⟩ s.heap [] hP ⟨fun i j a b ha hb _ => ?_, fun i a ha => Or.inl ⟨i, a.2, ha⟩⟩ va_S.rf
  have := (List.getElem?_eq_some_iff.mp ha).1
  have := (List.getElem?_eq_some_iff.mp hb).1
  simp only [List.length_cons, List.length_nil] at *
  omega
def mk0 (u : Nat → Nat) (cA : Nat → ClassId) : va_W := [(u 0, .inr (0, [.ref (u 1), .ref (u 2), .int 0])), (u 1, .inl (cA 0, 10, .inl (fun _ => 0))), (u 2, .inl (cA 0, 10, .inl (fun _ => 0)))]
theorem met_X0 : cMet mX0_init 0 [.null, .null, .int 0] mk0 { frames := 1, cells := 2, slots := 20, locals := 12 } 2 20 := by
  refine cMet.of cw_X0_init rfl rfl rfl ⟨Nat.le_refl _, Nat.le_refl _⟩ (fun p l e s m args below meth c D cA h0 A ls C => ?_)
  refine c_aload C dX0_init_0 ?_
  refine c_obj C dX0_init_1 (zg_1_5 _ (List.mem_of_getElem? (i := 26) rfl) rfl) ?_
  refine c_aload C dX0_init_4 ?_
  refine c_bipush (v := 10) C dX0_init_5 (by decide) ?_
  refine c_newa (t := 0) (N := 10) (a0 := (10, .inl (fun _ => 0))) C dX0_init_7 rfl rfl RA_int (Or.inl rfl) (fun _ => rfl) (by decide) (by decide) (Nat.le_of_ble_eq_true rfl) (Nat.le_of_ble_eq_true rfl) (Nat.le_of_ble_eq_true rfl) (fun q1 => ?_)
  refine c_putF C dX0_init_9 fl_X0_9 ⟨Nat.le_of_ble_eq_true rfl, Nat.le_of_ble_eq_true rfl⟩ rfl rfl rfl rfl (Nat.le_of_ble_eq_true rfl) ?_
  refine c_aload C dX0_init_12 ?_
  refine c_bipush (v := 10) C dX0_init_13 (by decide) ?_
  refine c_newa (t := 0) (N := 10) (a0 := (10, .inl (fun _ => 0))) C dX0_init_15 rfl rfl RA_int (Or.inl rfl) (fun _ => rfl) (by decide) (by decide) (Nat.le_of_ble_eq_true rfl) (Nat.le_of_ble_eq_true rfl) (Nat.le_of_ble_eq_true rfl) (fun q2 => ?_)
  refine c_putF C dX0_init_17 fl_X0_15 ⟨Nat.le_of_ble_eq_true rfl, Nat.le_of_ble_eq_true rfl⟩ rfl rfl rfl rfl (Nat.le_of_ble_eq_true rfl) ?_
  refine c_aload C dX0_init_20 ?_
  refine c_iconst (v := 0) C dX0_init_21 (by decide) ?_
  refine c_put C dX0_init_22 fl_X0_18 ⟨Nat.le_of_ble_eq_true rfl, Nat.le_of_ble_eq_true rfl⟩ rfl rfl rfl (Nat.le_of_ble_eq_true rfl) ?_
  exact c_ret (mk := mk0) (u := fun i => [h0, q1, q2].getD i 0) C dX0_init_25 rfl
def mk1 (u : Nat → Nat) (cA : Nat → ClassId) : va_W := [(u 0, .inr (1, [.ref (u 1), .ref (u 2), .ref (u 3), .int 0])), (u 1, .inl (cA 0, 256, .inl (fun _ => 0))), (u 2, .inl (cA 0, 256, .inl (fun _ => 0))), (u 3, .inl (cA 3, 256, .inr (.inl (fun _ => 0))))]
theorem met_X1 : cMet mX1_init 1 [.null, .null, .null, .int 0] mk1 { frames := 1, cells := 3, slots := 768, locals := 12 } 3 768 := by
  refine cMet.of cw_X1_init rfl rfl rfl ⟨Nat.le_refl _, Nat.le_refl _⟩ (fun p l e s m args below meth c D cA h0 A ls C => ?_)
  refine c_aload C dX1_init_0 ?_
  refine c_obj C dX1_init_1 (zg_1_5 _ (List.mem_of_getElem? (i := 6) rfl) rfl) ?_
  refine c_aload C dX1_init_4 ?_
  refine c_sipush (v := 256) C dX1_init_5 (by decide) ?_
  refine c_newa (t := 0) (N := 256) (a0 := (256, .inl (fun _ => 0))) C dX1_init_8 rfl rfl RA_int (Or.inl rfl) (fun _ => rfl) (by decide) (by decide) (Nat.le_of_ble_eq_true rfl) (Nat.le_of_ble_eq_true rfl) (Nat.le_of_ble_eq_true rfl) (fun q1 => ?_)
  refine c_putF C dX1_init_10 fl_X1_11 ⟨Nat.le_of_ble_eq_true rfl, Nat.le_of_ble_eq_true rfl⟩ rfl rfl rfl rfl (Nat.le_of_ble_eq_true rfl) ?_
  refine c_aload C dX1_init_13 ?_
  refine c_sipush (v := 256) C dX1_init_14 (by decide) ?_
  refine c_newa (t := 0) (N := 256) (a0 := (256, .inl (fun _ => 0))) C dX1_init_17 rfl rfl RA_int (Or.inl rfl) (fun _ => rfl) (by decide) (by decide) (Nat.le_of_ble_eq_true rfl) (Nat.le_of_ble_eq_true rfl) (Nat.le_of_ble_eq_true rfl) (fun q2 => ?_)
  refine c_putF C dX1_init_19 fl_X1_15 ⟨Nat.le_of_ble_eq_true rfl, Nat.le_of_ble_eq_true rfl⟩ rfl rfl rfl rfl (Nat.le_of_ble_eq_true rfl) ?_
  refine c_aload C dX1_init_22 ?_
  refine c_sipush (v := 256) C dX1_init_23 (by decide) ?_
  refine c_newa (t := 3) (N := 256) (a0 := (256, .inr (.inl (fun _ => 0)))) C dX1_init_26 rfl rfl RA_long (Or.inr (Or.inr (Or.inr rfl))) (fun _ => rfl) (by decide) (by decide) (Nat.le_of_ble_eq_true rfl) (Nat.le_of_ble_eq_true rfl) (Nat.le_of_ble_eq_true rfl) (fun q3 => ?_)
  refine c_putF C dX1_init_28 fl_X1_18 ⟨Nat.le_of_ble_eq_true rfl, Nat.le_of_ble_eq_true rfl⟩ rfl rfl rfl rfl (Nat.le_of_ble_eq_true rfl) ?_
  refine c_aload C dX1_init_31 ?_
  refine c_iconst (v := 0) C dX1_init_32 (by decide) ?_
  refine c_put C dX1_init_33 fl_X1_22 ⟨Nat.le_of_ble_eq_true rfl, Nat.le_of_ble_eq_true rfl⟩ rfl rfl rfl (Nat.le_of_ble_eq_true rfl) ?_
  exact c_ret (mk := mk1) (u := fun i => [h0, q1, q2, q3].getD i 0) C dX1_init_36 rfl
def mk2 (u : Nat → Nat) (cA : Nat → ClassId) : va_W := [(u 0, .inr (2, [.ref (u 1), .ref (u 2), .ref (u 3), .ref (u 4), .ref (u 5), .ref (u 6), .ref (u 7), .ref (u 8), .int 0, .int 0, .int 0, .int 20, .int 0, .int 0])), (u 1, .inl (cA 0, 6, .inl (fun _ => 0))), (u 2, .inl (cA 0, 6, .inl (fun _ => 0))), (u 3, .inl (cA 0, 6, .inl (fun _ => 0))), (u 4, .inl (cA 0, 4, .inl (fun _ => 0))), (u 5, .inl (cA 0, 4, .inl (fun _ => 0))), (u 6, .inl (cA 0, 6, .inl (fun _ => 0))), (u 7, .inl (cA 0, 6, .inl (fun _ => 0))), (u 8, .inl (cA 0, 6, .inl (fun _ => 0)))]
theorem met_X2 : cMet mX2_init 2 [.null, .null, .null, .null, .null, .null, .null, .null, .int 0, .int 0, .int 0, .int 0, .int 0, .int 0] mk2 { frames := 1, cells := 8, slots := 44, locals := 12 } 8 44 := by
  refine cMet.of cw_X2_init rfl rfl rfl ⟨Nat.le_refl _, Nat.le_refl _⟩ (fun p l e s m args below meth c D cA h0 A ls C => ?_)
  refine c_aload C dX2_init_0 ?_
  refine c_obj C dX2_init_1 (zg_1_0 _ (List.mem_of_getElem? (i := 28) rfl) rfl) ?_
  refine c_aload C dX2_init_4 ?_
  refine c_bipush (v := 6) C dX2_init_5 (by decide) ?_
  refine c_newa (t := 0) (N := 6) (a0 := (6, .inl (fun _ => 0))) C dX2_init_7 rfl rfl RA_int (Or.inl rfl) (fun _ => rfl) (by decide) (by decide) (Nat.le_of_ble_eq_true rfl) (Nat.le_of_ble_eq_true rfl) (Nat.le_of_ble_eq_true rfl) (fun q1 => ?_)
  refine c_putF C dX2_init_9 fl_X2_9 ⟨Nat.le_of_ble_eq_true rfl, Nat.le_of_ble_eq_true rfl⟩ rfl rfl rfl rfl (Nat.le_of_ble_eq_true rfl) ?_
  refine c_aload C dX2_init_12 ?_
  refine c_bipush (v := 6) C dX2_init_13 (by decide) ?_
  refine c_newa (t := 0) (N := 6) (a0 := (6, .inl (fun _ => 0))) C dX2_init_15 rfl rfl RA_int (Or.inl rfl) (fun _ => rfl) (by decide) (by decide) (Nat.le_of_ble_eq_true rfl) (Nat.le_of_ble_eq_true rfl) (Nat.le_of_ble_eq_true rfl) (fun q2 => ?_)
  refine c_putF C dX2_init_17 fl_X2_15 ⟨Nat.le_of_ble_eq_true rfl, Nat.le_of_ble_eq_true rfl⟩ rfl rfl rfl rfl (Nat.le_of_ble_eq_true rfl) ?_
  refine c_aload C dX2_init_20 ?_
  refine c_bipush (v := 6) C dX2_init_21 (by decide) ?_
  refine c_newa (t := 0) (N := 6) (a0 := (6, .inl (fun _ => 0))) C dX2_init_23 rfl rfl RA_int (Or.inl rfl) (fun _ => rfl) (by decide) (by decide) (Nat.le_of_ble_eq_true rfl) (Nat.le_of_ble_eq_true rfl) (Nat.le_of_ble_eq_true rfl) (fun q3 => ?_)
  refine c_putF C dX2_init_25 fl_X2_18 ⟨Nat.le_of_ble_eq_true rfl, Nat.le_of_ble_eq_true rfl⟩ rfl rfl rfl rfl (Nat.le_of_ble_eq_true rfl) ?_
  refine c_aload C dX2_init_28 ?_
  refine c_iconst (v := 4) C dX2_init_29 (by decide) ?_
  refine c_newa (t := 0) (N := 4) (a0 := (4, .inl (fun _ => 0))) C dX2_init_30 rfl rfl RA_int (Or.inl rfl) (fun _ => rfl) (by decide) (by decide) (Nat.le_of_ble_eq_true rfl) (Nat.le_of_ble_eq_true rfl) (Nat.le_of_ble_eq_true rfl) (fun q4 => ?_)
  refine c_putF C dX2_init_32 fl_X2_21 ⟨Nat.le_of_ble_eq_true rfl, Nat.le_of_ble_eq_true rfl⟩ rfl rfl rfl rfl (Nat.le_of_ble_eq_true rfl) ?_
  refine c_aload C dX2_init_35 ?_
  refine c_iconst (v := 4) C dX2_init_36 (by decide) ?_
  refine c_newa (t := 0) (N := 4) (a0 := (4, .inl (fun _ => 0))) C dX2_init_37 rfl rfl RA_int (Or.inl rfl) (fun _ => rfl) (by decide) (by decide) (Nat.le_of_ble_eq_true rfl) (Nat.le_of_ble_eq_true rfl) (Nat.le_of_ble_eq_true rfl) (fun q5 => ?_)
  refine c_putF C dX2_init_39 fl_X2_24 ⟨Nat.le_of_ble_eq_true rfl, Nat.le_of_ble_eq_true rfl⟩ rfl rfl rfl rfl (Nat.le_of_ble_eq_true rfl) ?_
  refine c_aload C dX2_init_42 ?_
  refine c_bipush (v := 6) C dX2_init_43 (by decide) ?_
  refine c_newa (t := 0) (N := 6) (a0 := (6, .inl (fun _ => 0))) C dX2_init_45 rfl rfl RA_int (Or.inl rfl) (fun _ => rfl) (by decide) (by decide) (Nat.le_of_ble_eq_true rfl) (Nat.le_of_ble_eq_true rfl) (Nat.le_of_ble_eq_true rfl) (fun q6 => ?_)
  refine c_putF C dX2_init_47 fl_X2_27 ⟨Nat.le_of_ble_eq_true rfl, Nat.le_of_ble_eq_true rfl⟩ rfl rfl rfl rfl (Nat.le_of_ble_eq_true rfl) ?_
  refine c_aload C dX2_init_50 ?_
  refine c_bipush (v := 6) C dX2_init_51 (by decide) ?_
  refine c_newa (t := 0) (N := 6) (a0 := (6, .inl (fun _ => 0))) C dX2_init_53 rfl rfl RA_int (Or.inl rfl) (fun _ => rfl) (by decide) (by decide) (Nat.le_of_ble_eq_true rfl) (Nat.le_of_ble_eq_true rfl) (Nat.le_of_ble_eq_true rfl) (fun q7 => ?_)
  refine c_putF C dX2_init_55 fl_X2_30 ⟨Nat.le_of_ble_eq_true rfl, Nat.le_of_ble_eq_true rfl⟩ rfl rfl rfl rfl (Nat.le_of_ble_eq_true rfl) ?_
  refine c_aload C dX2_init_58 ?_
  refine c_bipush (v := 6) C dX2_init_59 (by decide) ?_
  refine c_newa (t := 0) (N := 6) (a0 := (6, .inl (fun _ => 0))) C dX2_init_61 rfl rfl RA_int (Or.inl rfl) (fun _ => rfl) (by decide) (by decide) (Nat.le_of_ble_eq_true rfl) (Nat.le_of_ble_eq_true rfl) (Nat.le_of_ble_eq_true rfl) (fun q8 => ?_)
  refine c_putF C dX2_init_63 fl_X2_33 ⟨Nat.le_of_ble_eq_true rfl, Nat.le_of_ble_eq_true rfl⟩ rfl rfl rfl rfl (Nat.le_of_ble_eq_true rfl) ?_
  refine c_aload C dX2_init_66 ?_
  refine c_iconst (v := 0) C dX2_init_67 (by decide) ?_
  refine c_put C dX2_init_68 fl_X2_36 ⟨Nat.le_of_ble_eq_true rfl, Nat.le_of_ble_eq_true rfl⟩ rfl rfl rfl (Nat.le_of_ble_eq_true rfl) ?_
  refine c_aload C dX2_init_71 ?_
  refine c_iconst (v := 0) C dX2_init_72 (by decide) ?_
  refine c_put C dX2_init_73 fl_X2_40 ⟨Nat.le_of_ble_eq_true rfl, Nat.le_of_ble_eq_true rfl⟩ rfl rfl rfl (Nat.le_of_ble_eq_true rfl) ?_
  refine c_aload C dX2_init_76 ?_
  refine c_iconst (v := 0) C dX2_init_77 (by decide) ?_
  refine c_put C dX2_init_78 fl_X2_43 ⟨Nat.le_of_ble_eq_true rfl, Nat.le_of_ble_eq_true rfl⟩ rfl rfl rfl (Nat.le_of_ble_eq_true rfl) ?_
  refine c_aload C dX2_init_81 ?_
  refine c_bipush (v := 20) C dX2_init_82 (by decide) ?_
  refine c_put C dX2_init_84 fl_X2_46 ⟨Nat.le_of_ble_eq_true rfl, Nat.le_of_ble_eq_true rfl⟩ rfl rfl rfl (Nat.le_of_ble_eq_true rfl) ?_
  refine c_aload C dX2_init_87 ?_
  refine c_iconst (v := 0) C dX2_init_88 (by decide) ?_
  refine c_put C dX2_init_89 fl_X2_49 ⟨Nat.le_of_ble_eq_true rfl, Nat.le_of_ble_eq_true rfl⟩ rfl rfl rfl (Nat.le_of_ble_eq_true rfl) ?_
  refine c_aload C dX2_init_92 ?_
  refine c_iconst (v := 0) C dX2_init_93 (by decide) ?_
  refine c_put C dX2_init_94 fl_X2_52 ⟨Nat.le_of_ble_eq_true rfl, Nat.le_of_ble_eq_true rfl⟩ rfl rfl rfl (Nat.le_of_ble_eq_true rfl) ?_
  exact c_ret (mk := mk2) (u := fun i => [h0, q1, q2, q3, q4, q5, q6, q7, q8].getD i 0) C dX2_init_97 rfl
def mk3 (u : Nat → Nat) (cA : Nat → ClassId) : va_W := [(u 0, .inr (3, [.ref (u 1), .ref (u 2), .ref (u 3), .ref (u 4), .int 0, .int 0])), (u 1, .inl (cA 0, 96, .inl (fun _ => 0))), (u 2, .inl (cA 0, 6, .inl (fun _ => 0))), (u 3, .inl (cA 0, 4, .inl (fun _ => 0))), (u 4, .inl (cA 0, 4, .inl (fun _ => 0)))]
theorem met_X3 : cMet mX3_init 3 [.null, .null, .null, .null, .int 0, .int 0] mk3 { frames := 1, cells := 4, slots := 110, locals := 12 } 4 110 := by
  refine cMet.of cw_X3_init rfl rfl rfl ⟨Nat.le_refl _, Nat.le_refl _⟩ (fun p l e s m args below meth c D cA h0 A ls C => ?_)
  refine c_aload C dX3_init_0 ?_
  refine c_obj C dX3_init_1 (zg_1_4 _ (List.mem_of_getElem? (i := 11) rfl) rfl) ?_
  refine c_aload C dX3_init_4 ?_
  refine c_bipush (v := 96) C dX3_init_5 (by decide) ?_
  refine c_newa (t := 0) (N := 96) (a0 := (96, .inl (fun _ => 0))) C dX3_init_7 rfl rfl RA_int (Or.inl rfl) (fun _ => rfl) (by decide) (by decide) (Nat.le_of_ble_eq_true rfl) (Nat.le_of_ble_eq_true rfl) (Nat.le_of_ble_eq_true rfl) (fun q1 => ?_)
  refine c_putF C dX3_init_9 fl_X3_11 ⟨Nat.le_of_ble_eq_true rfl, Nat.le_of_ble_eq_true rfl⟩ rfl rfl rfl rfl (Nat.le_of_ble_eq_true rfl) ?_
  refine c_aload C dX3_init_12 ?_
  refine c_bipush (v := 6) C dX3_init_13 (by decide) ?_
  refine c_newa (t := 0) (N := 6) (a0 := (6, .inl (fun _ => 0))) C dX3_init_15 rfl rfl RA_int (Or.inl rfl) (fun _ => rfl) (by decide) (by decide) (Nat.le_of_ble_eq_true rfl) (Nat.le_of_ble_eq_true rfl) (Nat.le_of_ble_eq_true rfl) (fun q2 => ?_)
  refine c_putF C dX3_init_17 fl_X3_15 ⟨Nat.le_of_ble_eq_true rfl, Nat.le_of_ble_eq_true rfl⟩ rfl rfl rfl rfl (Nat.le_of_ble_eq_true rfl) ?_
  refine c_aload C dX3_init_20 ?_
  refine c_iconst (v := 4) C dX3_init_21 (by decide) ?_
  refine c_newa (t := 0) (N := 4) (a0 := (4, .inl (fun _ => 0))) C dX3_init_22 rfl rfl RA_int (Or.inl rfl) (fun _ => rfl) (by decide) (by decide) (Nat.le_of_ble_eq_true rfl) (Nat.le_of_ble_eq_true rfl) (Nat.le_of_ble_eq_true rfl) (fun q3 => ?_)
  refine c_putF C dX3_init_24 fl_X3_18 ⟨Nat.le_of_ble_eq_true rfl, Nat.le_of_ble_eq_true rfl⟩ rfl rfl rfl rfl (Nat.le_of_ble_eq_true rfl) ?_
  refine c_aload C dX3_init_27 ?_
  refine c_iconst (v := 4) C dX3_init_28 (by decide) ?_
  refine c_newa (t := 0) (N := 4) (a0 := (4, .inl (fun _ => 0))) C dX3_init_29 rfl rfl RA_int (Or.inl rfl) (fun _ => rfl) (by decide) (by decide) (Nat.le_of_ble_eq_true rfl) (Nat.le_of_ble_eq_true rfl) (Nat.le_of_ble_eq_true rfl) (fun q4 => ?_)
  refine c_putF C dX3_init_31 fl_X3_21 ⟨Nat.le_of_ble_eq_true rfl, Nat.le_of_ble_eq_true rfl⟩ rfl rfl rfl rfl (Nat.le_of_ble_eq_true rfl) ?_
  refine c_aload C dX3_init_34 ?_
  refine c_iconst (v := 0) C dX3_init_35 (by decide) ?_
  refine c_put C dX3_init_36 fl_X3_24 ⟨Nat.le_of_ble_eq_true rfl, Nat.le_of_ble_eq_true rfl⟩ rfl rfl rfl (Nat.le_of_ble_eq_true rfl) ?_
  refine c_aload C dX3_init_39 ?_
  refine c_iconst (v := 0) C dX3_init_40 (by decide) ?_
  refine c_put C dX3_init_41 fl_X3_28 ⟨Nat.le_of_ble_eq_true rfl, Nat.le_of_ble_eq_true rfl⟩ rfl rfl rfl (Nat.le_of_ble_eq_true rfl) ?_
  exact c_ret (mk := mk3) (u := fun i => [h0, q1, q2, q3, q4].getD i 0) C dX3_init_44 rfl
def mk4 (u : Nat → Nat) (cA : Nat → ClassId) : va_W := [(u 0, .inr (4, [.ref (u 1), .ref (u 2), .ref (u 3)])), (u 1, .inl (cA 0, 160, .inl (fun _ => 0))), (u 2, .inl (cA 0, 4, .inl (fun _ => 0))), (u 3, .inl (cA 0, 4, .inl (upd (upd (upd (upd (fun _ => 0) 0 (-1)) 1 (-1)) 2 (-1)) 3 (-1))))]
theorem met_X4 : cMet mX4_init 4 [.null, .null, .null] mk4 { frames := 1, cells := 3, slots := 168, locals := 12 } 3 168 := by
  refine cMet.of cw_X4_init rfl rfl rfl ⟨Nat.le_refl _, Nat.le_refl _⟩ (fun p l e s m args below meth c D cA h0 A ls C => ?_)
  refine c_aload C dX4_init_0 ?_
  refine c_obj C dX4_init_1 (zg_1_6 _ (List.mem_of_getElem? (i := 11) rfl) rfl) ?_
  refine c_aload C dX4_init_4 ?_
  refine c_sipush (v := 160) C dX4_init_5 (by decide) ?_
  refine c_newa (t := 0) (N := 160) (a0 := (160, .inl (fun _ => 0))) C dX4_init_8 rfl rfl RA_int (Or.inl rfl) (fun _ => rfl) (by decide) (by decide) (Nat.le_of_ble_eq_true rfl) (Nat.le_of_ble_eq_true rfl) (Nat.le_of_ble_eq_true rfl) (fun q1 => ?_)
  refine c_putF C dX4_init_10 fl_X4_9 ⟨Nat.le_of_ble_eq_true rfl, Nat.le_of_ble_eq_true rfl⟩ rfl rfl rfl rfl (Nat.le_of_ble_eq_true rfl) ?_
  refine c_aload C dX4_init_13 ?_
  refine c_iconst (v := 4) C dX4_init_14 (by decide) ?_
  refine c_newa (t := 0) (N := 4) (a0 := (4, .inl (fun _ => 0))) C dX4_init_15 rfl rfl RA_int (Or.inl rfl) (fun _ => rfl) (by decide) (by decide) (Nat.le_of_ble_eq_true rfl) (Nat.le_of_ble_eq_true rfl) (Nat.le_of_ble_eq_true rfl) (fun q2 => ?_)
  refine c_putF C dX4_init_17 fl_X4_15 ⟨Nat.le_of_ble_eq_true rfl, Nat.le_of_ble_eq_true rfl⟩ rfl rfl rfl rfl (Nat.le_of_ble_eq_true rfl) ?_
  refine c_aload C dX4_init_20 ?_
  refine c_iconst (v := 4) C dX4_init_21 (by decide) ?_
  refine c_newa (t := 0) (N := 4) (a0 := (4, .inl (fun _ => 0))) C dX4_init_22 rfl rfl RA_int (Or.inl rfl) (fun _ => rfl) (by decide) (by decide) (Nat.le_of_ble_eq_true rfl) (Nat.le_of_ble_eq_true rfl) (Nat.le_of_ble_eq_true rfl) (fun q3 => ?_)
  refine c_dup C dX4_init_24 rfl ?_
  refine c_iconst (v := 0) C dX4_init_25 (by decide) ?_
  refine c_iconst (v := (-1)) C dX4_init_26 (by decide) ?_
  refine c_iast (q0 := 3) C dX4_init_27 rfl (by unfold vp_in; decide) ?_
  refine c_dup C dX4_init_28 rfl ?_
  refine c_iconst (v := 1) C dX4_init_29 (by decide) ?_
  refine c_iconst (v := (-1)) C dX4_init_30 (by decide) ?_
  refine c_iast (q0 := 3) C dX4_init_31 rfl (by unfold vp_in; decide) ?_
  refine c_dup C dX4_init_32 rfl ?_
  refine c_iconst (v := 2) C dX4_init_33 (by decide) ?_
  refine c_iconst (v := (-1)) C dX4_init_34 (by decide) ?_
  refine c_iast (q0 := 3) C dX4_init_35 rfl (by unfold vp_in; decide) ?_
  refine c_dup C dX4_init_36 rfl ?_
  refine c_iconst (v := 3) C dX4_init_37 (by decide) ?_
  refine c_iconst (v := (-1)) C dX4_init_38 (by decide) ?_
  refine c_iast (q0 := 3) C dX4_init_39 rfl (by unfold vp_in; decide) ?_
  refine c_putF C dX4_init_40 fl_X4_18 ⟨Nat.le_of_ble_eq_true rfl, Nat.le_of_ble_eq_true rfl⟩ rfl rfl rfl rfl (Nat.le_of_ble_eq_true rfl) ?_
  exact c_ret (mk := mk4) (u := fun i => [h0, q1, q2, q3].getD i 0) C dX4_init_43 rfl
def mk5 (u : Nat → Nat) (cA : Nat → ClassId) : va_W := [(u 0, .inr (5, [.ref (u 1), .int 0, .int 0, .int 0, .int 0, .int 0, .int 0, .int 0, .int 0])), (u 1, .inl (cA 2, 160, .inl (fun _ => 0)))]
theorem met_X5 : cMet mX5_init 5 [.null, .int 0, .int 0, .int 0, .int 0, .int 0, .int 0, .int 0, .int 0] mk5 { frames := 1, cells := 1, slots := 160, locals := 12 } 1 160 := by
  refine cMet.of cw_X5_init rfl rfl rfl ⟨Nat.le_refl _, Nat.le_refl _⟩ (fun p l e s m args below meth c D cA h0 A ls C => ?_)
  refine c_aload C dX5_init_0 ?_
  refine c_obj C dX5_init_1 (zg_1_3 _ (List.mem_of_getElem? (i := 4) rfl) rfl) ?_
  refine c_aload C dX5_init_4 ?_
  refine c_sipush (v := 160) C dX5_init_5 (by decide) ?_
  refine c_newa (t := 2) (N := 160) (a0 := (160, .inl (fun _ => 0))) C dX5_init_8 rfl rfl RA_byte (Or.inr (Or.inr (Or.inl rfl))) (fun _ => rfl) (by decide) (by decide) (Nat.le_of_ble_eq_true rfl) (Nat.le_of_ble_eq_true rfl) (Nat.le_of_ble_eq_true rfl) (fun q1 => ?_)
  refine c_putF C dX5_init_10 fl_X5_11 ⟨Nat.le_of_ble_eq_true rfl, Nat.le_of_ble_eq_true rfl⟩ rfl rfl rfl rfl (Nat.le_of_ble_eq_true rfl) ?_
  refine c_aload C dX5_init_13 ?_
  refine c_iconst (v := 0) C dX5_init_14 (by decide) ?_
  refine c_put C dX5_init_15 fl_X5_15 ⟨Nat.le_of_ble_eq_true rfl, Nat.le_of_ble_eq_true rfl⟩ rfl rfl rfl (Nat.le_of_ble_eq_true rfl) ?_
  refine c_aload C dX5_init_18 ?_
  refine c_iconst (v := 0) C dX5_init_19 (by decide) ?_
  refine c_put C dX5_init_20 fl_X5_19 ⟨Nat.le_of_ble_eq_true rfl, Nat.le_of_ble_eq_true rfl⟩ rfl rfl rfl (Nat.le_of_ble_eq_true rfl) ?_
  refine c_aload C dX5_init_23 ?_
  refine c_iconst (v := 0) C dX5_init_24 (by decide) ?_
  refine c_put C dX5_init_25 fl_X5_22 ⟨Nat.le_of_ble_eq_true rfl, Nat.le_of_ble_eq_true rfl⟩ rfl rfl rfl (Nat.le_of_ble_eq_true rfl) ?_
  refine c_aload C dX5_init_28 ?_
  refine c_iconst (v := 0) C dX5_init_29 (by decide) ?_
  refine c_put C dX5_init_30 fl_X5_25 ⟨Nat.le_of_ble_eq_true rfl, Nat.le_of_ble_eq_true rfl⟩ rfl rfl rfl (Nat.le_of_ble_eq_true rfl) ?_
  refine c_aload C dX5_init_33 ?_
  refine c_iconst (v := 0) C dX5_init_34 (by decide) ?_
  refine c_put C dX5_init_35 fl_X5_28 ⟨Nat.le_of_ble_eq_true rfl, Nat.le_of_ble_eq_true rfl⟩ rfl rfl rfl (Nat.le_of_ble_eq_true rfl) ?_
  refine c_aload C dX5_init_38 ?_
  refine c_iconst (v := 0) C dX5_init_39 (by decide) ?_
  refine c_put C dX5_init_40 fl_X5_31 ⟨Nat.le_of_ble_eq_true rfl, Nat.le_of_ble_eq_true rfl⟩ rfl rfl rfl (Nat.le_of_ble_eq_true rfl) ?_
  refine c_aload C dX5_init_43 ?_
  refine c_iconst (v := 0) C dX5_init_44 (by decide) ?_
  refine c_put C dX5_init_45 fl_X5_34 ⟨Nat.le_of_ble_eq_true rfl, Nat.le_of_ble_eq_true rfl⟩ rfl rfl rfl (Nat.le_of_ble_eq_true rfl) ?_
  refine c_aload C dX5_init_48 ?_
  refine c_iconst (v := 0) C dX5_init_49 (by decide) ?_
  refine c_put C dX5_init_50 fl_X5_37 ⟨Nat.le_of_ble_eq_true rfl, Nat.le_of_ble_eq_true rfl⟩ rfl rfl rfl (Nat.le_of_ble_eq_true rfl) ?_
  exact c_ret (mk := mk5) (u := fun i => [h0, q1].getD i 0) C dX5_init_53 rfl
