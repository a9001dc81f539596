/-! THE CONSTRUCTOR OF THE REFERENCE -/
def nul7 : List Value := [.null, .null, .null, .null, .int 0, .int 0, .null, .int 0, .int 0, .int 0, .int 0, .int 0, .int 0, .int 0, .int 0, .int 0, .int 0, .int 0, .null, .long 0, .long 0, .long 0, .null, .null, .null, .null, .null, .int 0, .null]
def Wf7 (u q : Nat → Nat) (cA : Nat → ClassId) : va_W := (q 0, .inr (7, [.ref (q 1), .ref (q 2), .ref (q 3), .ref (q 4), .int 0, .int 0, .ref (q 5), .int 0, .int 0, .int 0, .int 0, .int 0, .int 0, .int 0, .int 0, .int 0, .int 0, .int 0, .ref (q 6), .long 0, .long 0, .long 0, .ref (q 7), .ref (q 8), .ref (q 9), .ref (q 10), .ref (q 11), .int 0, .ref (q 12)])) :: (((((((((((((mk6 u cA ++ [(q 1, .inl (cA 0, 150, .inl (fun _ => 0)))]) ++ [(q 2, .inl (cA 0, 50, .inl (fun _ => 0)))]) ++ [(q 3, .inl (cA 1, 2, .inl (fun _ => 0)))]) ++ [(q 4, .inl (cA 0, 50, .inl (fun _ => 0)))]) ++ [(q 5, .inl (cA 0, 160, .inl (fun _ => 0)))]) ++ [(q 6, .inl (cA 0, 4, .inl (fun _ => 0)))]) ++ [(q 7, .inl (cA 0, 126, .inl (fun _ => 0)))]) ++ [(q 8, .inl (cA 0, 210, .inl (fun _ => 0)))]) ++ [(q 9, .inl (cA 0, 4, .inl (fun _ => 0)))]) ++ [(q 10, .inl (cA 0, 4, .inl (fun _ => 0)))]) ++ [(q 11, .inl (cA 0, 160, .inl (fun _ => 0)))]) ++ [(q 12, .inl (cA 0, 50, .inl (fun _ => 0)))]))
def g7 (k : Nat) : Nat := if k < 57 then k + 1 else if k = 57 then 0 else k
theorem zen7 (u q sa : Nat → Nat) (cA : Nat → ClassId) : ∀ k, k < 57 → zen (ad7 u q sa) cA S0 k = zen u cA S0 k := by
  intro k h
  by_cases e0 : k = 0
  · subst e0; rfl
  by_cases e1 : k = 1
  · subst e1; rfl
  by_cases e2 : k = 2
  · subst e2; rfl
  by_cases e3 : k = 3
  · subst e3; rfl
  by_cases e4 : k = 4
  · subst e4; rfl
  by_cases e5 : k = 5
  · subst e5; rfl
  by_cases e6 : k = 6
  · subst e6; rfl
  by_cases e7 : k = 7
  · subst e7; rfl
  by_cases e8 : k = 8
  · subst e8; rfl
  by_cases e9 : k = 9
  · subst e9; rfl
  by_cases e10 : k = 10
  · subst e10; rfl
  by_cases e11 : k = 11
  · subst e11; rfl
  by_cases e12 : k = 12
  · subst e12; rfl
  by_cases e13 : k = 13
  · subst e13; rfl
  by_cases e14 : k = 14
  · subst e14; rfl
  by_cases e15 : k = 15
  · subst e15; rfl
  by_cases e16 : k = 16
  · subst e16; rfl
  by_cases e17 : k = 17
  · subst e17; rfl
  by_cases e18 : k = 18
  · subst e18; rfl
  by_cases e19 : k = 19
  · subst e19; exact congrArg (fun f => (.inl (cA 4, 2, .inr (.inr (.inr (.inr f)))) : va_E)) (funext fun i => by show some (ad7 u q sa (if i = 0 then 20 else 29)) = some (u (if i = 0 then 20 else 29)); by_cases h : i = 0 <;> simp [h, ad7])
  by_cases e20 : k = 20
  · subst e20; rfl
  by_cases e21 : k = 21
  · subst e21; rfl
  by_cases e22 : k = 22
  · subst e22; rfl
  by_cases e23 : k = 23
  · subst e23; rfl
  by_cases e24 : k = 24
  · subst e24; rfl
  by_cases e25 : k = 25
  · subst e25; rfl
  by_cases e26 : k = 26
  · subst e26; rfl
  by_cases e27 : k = 27
  · subst e27; rfl
  by_cases e28 : k = 28
  · subst e28; rfl
  by_cases e29 : k = 29
  · subst e29; rfl
  by_cases e30 : k = 30
  · subst e30; rfl
  by_cases e31 : k = 31
  · subst e31; rfl
  by_cases e32 : k = 32
  · subst e32; rfl
  by_cases e33 : k = 33
  · subst e33; rfl
  by_cases e34 : k = 34
  · subst e34; rfl
  by_cases e35 : k = 35
  · subst e35; rfl
  by_cases e36 : k = 36
  · subst e36; rfl
  by_cases e37 : k = 37
  · subst e37; rfl
  by_cases e38 : k = 38
  · subst e38; rfl
  by_cases e39 : k = 39
  · subst e39; rfl
  by_cases e40 : k = 40
  · subst e40; rfl
  by_cases e41 : k = 41
  · subst e41; rfl
  by_cases e42 : k = 42
  · subst e42; rfl
  by_cases e43 : k = 43
  · subst e43; rfl
  by_cases e44 : k = 44
  · subst e44; rfl
  by_cases e45 : k = 45
  · subst e45; rfl
  by_cases e46 : k = 46
  · subst e46; rfl
  by_cases e47 : k = 47
  · subst e47; rfl
  by_cases e48 : k = 48
  · subst e48; rfl
  by_cases e49 : k = 49
  · subst e49; rfl
  by_cases e50 : k = 50
  · subst e50; rfl
  by_cases e51 : k = 51
  · subst e51; rfl
  by_cases e52 : k = 52
  · subst e52; rfl
  by_cases e53 : k = 53
  · subst e53; rfl
  by_cases e54 : k = 54
  · subst e54; rfl
  by_cases e55 : k = 55
  · subst e55; rfl
  by_cases e56 : k = 56
  · subst e56; rfl
  omega
theorem mk6_len (u : Nat → Nat) (cA : Nat → ClassId) : (mk6 u cA).length = 57 := by simp [mk6]
theorem mk6_at (u : Nat → Nat) (cA : Nat → ClassId) {k : Nat} (h : k < 57) : (mk6 u cA)[k]? = some (u k, zen u cA S0 k) := by
  unfold mk6; rw [List.getElem?_map, List.getElem?_range h]; rfl
theorem w7_lo (u q : Nat → Nat) (cA : Nat → ClassId) (k : Nat) (h : k < 57) : (Wf7 u q cA)[k + 1]? = some (u k, zen u cA S0 k) := by
  unfold Wf7
  rw [List.getElem?_cons_succ]
  simp only [List.append_assoc]
  rw [List.getElem?_append_left (by rw [mk6_len]; exact h)]
  exact mk6_at u cA h
theorem w7_hi (u q sa : Nat → Nat) (cA : Nat → ClassId) (k : Nat) (h1 : 57 ≤ k) (h2 : k < 70) : (Wf7 u q cA)[g7 k]? = some (ad7 u q sa k, zen (ad7 u q sa) cA S0 k) := by
  by_cases h3 : k = 57
  · subst h3; rfl
  · obtain ⟨j, rfl⟩ : ∃ j, k = 58 + j := ⟨k - 58, by omega⟩
    have hj : j < 12 := by omega
    rw [show g7 (58 + j) = (57 + j) + 1 by unfold g7; rw [if_neg (by omega), if_neg (by omega)]; omega]
    unfold Wf7
    rw [List.getElem?_cons_succ]
    simp only [List.append_assoc]
    rw [List.getElem?_append_right (by rw [mk6_len]; omega), mk6_len, show 57 + j - 57 = j by omega]
    exact match j, hj with
    | 0, _ => rfl
    | 1, _ => rfl
    | 2, _ => rfl
    | 3, _ => rfl
    | 4, _ => rfl
    | 5, _ => rfl
    | 6, _ => rfl
    | 7, _ => rfl
    | 8, _ => rfl
    | 9, _ => rfl
    | 10, _ => rfl
    | 11, _ => rfl
theorem w7_at (u q sa : Nat → Nat) (cA : Nat → ClassId) : ∀ (k : Nat) (x : Nat × va_E), (zws (ad7 u q sa) cA S0)[k]? = some x → (Wf7 u q cA)[g7 k]? = some x := by
  intro k x hx
  have hk : k < 70 := by
    have := (List.getElem?_eq_some_iff.mp hx).1
    simpa [zws] using this
  rw [zws_at _ cA S0 hk] at hx
  cases hx
  by_cases h : k < 57
  · rw [show g7 k = k + 1 from if_pos h, w7_lo u q cA k h, zen7 u q sa cA k h, show ad7 u q sa k = u k from if_pos h]
  · exact w7_hi u q sa cA k (by omega) hk
theorem g7_inj (i j : Nat) (h : g7 i = g7 j) : i = j := by
  unfold g7 at h
  split at h <;> split at h <;> (try split at h) <;> (try split at h) <;> omega
def m7A (u : Nat → Nat) (cA : Nat → ClassId) (h0 sz : Nat) : Nat → Prop := va_A (W7 u cA nul7 h0) sz
def mMet (Qm : ZSt → Prop) (rm : Room) (ms : Nat) : Prop :=
  ∀ (l : Launch) (D : va_G) (cA : Nat → ClassId) (u sa : Nat → Nat) (h0 sz : Nat), Met l mX7_init.1 [.code mX7_init.1 mX7_init.2.1 mX7_init.2.2.1 mX7_init.2.2.2] rm
    (va_Pc [.ref h0] (fun U => U.heap.size = sz ∧ va_P D vwCl (W7 u cA nul7 h0) U.heap ∧ va_D (m7A u cA h0 sz) (W7 u cA nul7 h0) ∧ va_K D vwCl (ztys cA) U ∧ zTb U ∧ zAC U ∧ zXt sa (m7A u cA h0 sz) U U.heap))
    (va_Qv (fun x : (Nat → Nat) × ZSt => ((∀ k, k < 57 → x.1 k = u k) ∧ x.1 57 = h0 ∧ ∀ k, 70 ≤ k → x.1 k = sa k) ∧ zInj x.1 ∧ (∀ q, zA x.1 q → m7A u cA h0 sz q) ∧ Qm x.2) (fun x t => va_P D vwCl (zws x.1 cA x.2) t.heap) (m7A u cA h0 sz)) 12 ms (m7A u cA h0 sz)
def ms7 : Nat := 970
theorem x7_run {p : Program} {l : Launch} {e : Env} {R : Room} {s : State} {m : MethodId} {args : Array Value} {below : List Frame} {meth : Method} {c : Code} {D : va_G} {cA : Nat → ClassId} {A : Nat → Prop} {ls : Array Slot} {Q : State → Prop} {h0 : Nat} {u : Nat → Nat} (hRc : R.cells = 12) (hRs : R.slots = ms7) (C : cX p R s m meth c D cA mX7_init A ls h0)
    (kk : ∀ q : Nat → Nat, q 0 = h0 → cS p l e R s m args below meth c D A ls Q 100 [] (Wf7 u q cA) 12 ms7) : cS p l e R s m args below meth c D A ls Q 0 [] (W7 u cA nul7 h0) 0 0 := by
  obtain ⟨Rf, Rc, Rs, Rl⟩ := R
  subst hRc hRs
  refine c_aload C dX7_init_0 ?_
  refine c_obj C dX7_init_1 (zg_4_1 _ (List.mem_of_getElem? (i := 1) rfl) rfl) ?_
  refine c_aload C dX7_init_4 ?_
  refine c_sipush (v := 150) C dX7_init_5 (by decide) ?_
  refine c_newa (t := 0) (N := 150) (a0 := (150, .inl (fun _ => 0))) C dX7_init_8 rfl rfl RA_int (Or.inl rfl) (fun _ => rfl) (by decide) (by decide) (Nat.le_of_ble_eq_true rfl) (Nat.le_of_ble_eq_true rfl) (Nat.le_of_ble_eq_true rfl) (fun q1 => ?_)
  refine c_putF C dX7_init_10 fl_X7_7 ⟨(Nat.le_of_ble_eq_true rfl), (Nat.le_of_ble_eq_true rfl)⟩ rfl rfl rfl rfl (Nat.le_of_ble_eq_true rfl) ?_
  refine c_aload C dX7_init_13 ?_
  refine c_bipush (v := 50) C dX7_init_14 (by decide) ?_
  refine c_newa (t := 0) (N := 50) (a0 := (50, .inl (fun _ => 0))) C dX7_init_16 rfl rfl RA_int (Or.inl rfl) (fun _ => rfl) (by decide) (by decide) (Nat.le_of_ble_eq_true rfl) (Nat.le_of_ble_eq_true rfl) (Nat.le_of_ble_eq_true rfl) (fun q2 => ?_)
  refine c_putF C dX7_init_18 fl_X7_13 ⟨(Nat.le_of_ble_eq_true rfl), (Nat.le_of_ble_eq_true rfl)⟩ rfl rfl rfl rfl (Nat.le_of_ble_eq_true rfl) ?_
  refine c_aload C dX7_init_21 ?_
  refine c_iconst (v := 2) C dX7_init_22 (by decide) ?_
  refine c_newa (t := 1) (N := 2) (a0 := (2, .inl (fun _ => 0))) C dX7_init_23 rfl rfl RA_bool (Or.inr (Or.inl rfl)) (fun _ => rfl) (by decide) (by decide) (Nat.le_of_ble_eq_true rfl) (Nat.le_of_ble_eq_true rfl) (Nat.le_of_ble_eq_true rfl) (fun q3 => ?_)
  refine c_putF C dX7_init_25 fl_X7_16 ⟨(Nat.le_of_ble_eq_true rfl), (Nat.le_of_ble_eq_true rfl)⟩ rfl rfl rfl rfl (Nat.le_of_ble_eq_true rfl) ?_
  refine c_aload C dX7_init_28 ?_
  refine c_bipush (v := 50) C dX7_init_29 (by decide) ?_
  refine c_newa (t := 0) (N := 50) (a0 := (50, .inl (fun _ => 0))) C dX7_init_31 rfl rfl RA_int (Or.inl rfl) (fun _ => rfl) (by decide) (by decide) (Nat.le_of_ble_eq_true rfl) (Nat.le_of_ble_eq_true rfl) (Nat.le_of_ble_eq_true rfl) (fun q4 => ?_)
  refine c_putF C dX7_init_33 fl_X7_20 ⟨(Nat.le_of_ble_eq_true rfl), (Nat.le_of_ble_eq_true rfl)⟩ rfl rfl rfl rfl (Nat.le_of_ble_eq_true rfl) ?_
  refine c_aload C dX7_init_36 ?_
  refine c_sipush (v := 160) C dX7_init_37 (by decide) ?_
  refine c_newa (t := 0) (N := 160) (a0 := (160, .inl (fun _ => 0))) C dX7_init_40 rfl rfl RA_int (Or.inl rfl) (fun _ => rfl) (by decide) (by decide) (Nat.le_of_ble_eq_true rfl) (Nat.le_of_ble_eq_true rfl) (Nat.le_of_ble_eq_true rfl) (fun q5 => ?_)
  refine c_putF C dX7_init_42 fl_X7_23 ⟨(Nat.le_of_ble_eq_true rfl), (Nat.le_of_ble_eq_true rfl)⟩ rfl rfl rfl rfl (Nat.le_of_ble_eq_true rfl) ?_
  refine c_aload C dX7_init_45 ?_
  refine c_iconst (v := 4) C dX7_init_46 (by decide) ?_
  refine c_newa (t := 0) (N := 4) (a0 := (4, .inl (fun _ => 0))) C dX7_init_47 rfl rfl RA_int (Or.inl rfl) (fun _ => rfl) (by decide) (by decide) (Nat.le_of_ble_eq_true rfl) (Nat.le_of_ble_eq_true rfl) (Nat.le_of_ble_eq_true rfl) (fun q6 => ?_)
  refine c_putF C dX7_init_49 fl_X7_26 ⟨(Nat.le_of_ble_eq_true rfl), (Nat.le_of_ble_eq_true rfl)⟩ rfl rfl rfl rfl (Nat.le_of_ble_eq_true rfl) ?_
  refine c_aload C dX7_init_52 ?_
  refine c_bipush (v := 126) C dX7_init_53 (by decide) ?_
  refine c_newa (t := 0) (N := 126) (a0 := (126, .inl (fun _ => 0))) C dX7_init_55 rfl rfl RA_int (Or.inl rfl) (fun _ => rfl) (by decide) (by decide) (Nat.le_of_ble_eq_true rfl) (Nat.le_of_ble_eq_true rfl) (Nat.le_of_ble_eq_true rfl) (fun q7 => ?_)
  refine c_putF C dX7_init_57 fl_X7_29 ⟨(Nat.le_of_ble_eq_true rfl), (Nat.le_of_ble_eq_true rfl)⟩ rfl rfl rfl rfl (Nat.le_of_ble_eq_true rfl) ?_
  refine c_aload C dX7_init_60 ?_
  refine c_sipush (v := 210) C dX7_init_61 (by decide) ?_
  refine c_newa (t := 0) (N := 210) (a0 := (210, .inl (fun _ => 0))) C dX7_init_64 rfl rfl RA_int (Or.inl rfl) (fun _ => rfl) (by decide) (by decide) (Nat.le_of_ble_eq_true rfl) (Nat.le_of_ble_eq_true rfl) (Nat.le_of_ble_eq_true rfl) (fun q8 => ?_)
  refine c_putF C dX7_init_66 fl_X7_32 ⟨(Nat.le_of_ble_eq_true rfl), (Nat.le_of_ble_eq_true rfl)⟩ rfl rfl rfl rfl (Nat.le_of_ble_eq_true rfl) ?_
  refine c_aload C dX7_init_69 ?_
  refine c_iconst (v := 4) C dX7_init_70 (by decide) ?_
  refine c_newa (t := 0) (N := 4) (a0 := (4, .inl (fun _ => 0))) C dX7_init_71 rfl rfl RA_int (Or.inl rfl) (fun _ => rfl) (by decide) (by decide) (Nat.le_of_ble_eq_true rfl) (Nat.le_of_ble_eq_true rfl) (Nat.le_of_ble_eq_true rfl) (fun q9 => ?_)
  refine c_putF C dX7_init_73 fl_X7_35 ⟨(Nat.le_of_ble_eq_true rfl), (Nat.le_of_ble_eq_true rfl)⟩ rfl rfl rfl rfl (Nat.le_of_ble_eq_true rfl) ?_
  refine c_aload C dX7_init_76 ?_
  refine c_iconst (v := 4) C dX7_init_77 (by decide) ?_
  refine c_newa (t := 0) (N := 4) (a0 := (4, .inl (fun _ => 0))) C dX7_init_78 rfl rfl RA_int (Or.inl rfl) (fun _ => rfl) (by decide) (by decide) (Nat.le_of_ble_eq_true rfl) (Nat.le_of_ble_eq_true rfl) (Nat.le_of_ble_eq_true rfl) (fun q10 => ?_)
  refine c_putF C dX7_init_80 fl_X7_38 ⟨(Nat.le_of_ble_eq_true rfl), (Nat.le_of_ble_eq_true rfl)⟩ rfl rfl rfl rfl (Nat.le_of_ble_eq_true rfl) ?_
  refine c_aload C dX7_init_83 ?_
  refine c_sipush (v := 160) C dX7_init_84 (by decide) ?_
  refine c_newa (t := 0) (N := 160) (a0 := (160, .inl (fun _ => 0))) C dX7_init_87 rfl rfl RA_int (Or.inl rfl) (fun _ => rfl) (by decide) (by decide) (Nat.le_of_ble_eq_true rfl) (Nat.le_of_ble_eq_true rfl) (Nat.le_of_ble_eq_true rfl) (fun q11 => ?_)
  refine c_putF C dX7_init_89 fl_X7_41 ⟨(Nat.le_of_ble_eq_true rfl), (Nat.le_of_ble_eq_true rfl)⟩ rfl rfl rfl rfl (Nat.le_of_ble_eq_true rfl) ?_
  refine c_aload C dX7_init_92 ?_
  refine c_bipush (v := 50) C dX7_init_93 (by decide) ?_
  refine c_newa (t := 0) (N := 50) (a0 := (50, .inl (fun _ => 0))) C dX7_init_95 rfl rfl RA_int (Or.inl rfl) (fun _ => rfl) (by decide) (by decide) (Nat.le_of_ble_eq_true rfl) (Nat.le_of_ble_eq_true rfl) (Nat.le_of_ble_eq_true rfl) (fun q12 => ?_)
  refine c_putF C dX7_init_97 fl_X7_44 ⟨(Nat.le_of_ble_eq_true rfl), (Nat.le_of_ble_eq_true rfl)⟩ rfl rfl rfl rfl (Nat.le_of_ble_eq_true rfl) ?_
  exact kk (fun i => [h0, q1, q2, q3, q4, q5, q6, q7, q8, q9, q10, q11, q12].getD i 0) rfl
