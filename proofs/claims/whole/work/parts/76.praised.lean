/-! THE CONSTRUCTOR OF PraisedFields -/
theorem arrV2 (cI : ClassId) (f g : Nat → Value) (h0 : f 0 = g 0) (h1 : f 1 = g 1) : arrV cI 2 f = arrV cI 2 g := by
  unfold arrV
  congr 2
  funext j
  match j with
  | ⟨0, _⟩ => exact h0
  | ⟨1, _⟩ => exact h1
theorem cell2 (cI : ClassId) (f g : Nat → Option Nat) (h0 : f 0 = g 0) (h1 : f 1 = g 1) : vp_cell cI (2, .inr (.inr (.inr (.inr f)))) = vp_cell cI (2, .inr (.inr (.inr (.inr g)))) := arrV2 cI (fun j => va_rf (f j)) (fun j => va_rf (g j)) (congrArg va_rf h0) (congrArg va_rf h1)
theorem c_cell {p : Program} {l : Launch} {e : Env} {R : Room} {s : State} {m : MethodId} {args : Array Value} {below : List Frame} {meth : Method} {c : Code} {D : va_G} {A : Nat → Prop} {ls : Array Slot} {Q : State → Prop} {pc : Nat} {st : List Value} {ws : va_W} {k n q0 a N : Nat} {cI : ClassId} {x y : (Nat → Int32) ⊕ (Nat → Int64) ⊕ (Nat → UInt32) ⊕ (Nat → UInt64) ⊕ (Nat → Option Nat)} (ha : ws[q0]? = some (a, .inl (cI, N, x))) (hc : vp_cell cI (N, x) = vp_cell cI (N, y)) (kk : cS p l e R s m args below meth c D A ls Q pc st (ws.set q0 (a, .inl (cI, N, y))) k n) : cS p l e R s m args below meth c D A ls Q pc st ws k n := by
  intro H locs hP hD hS
  refine kk H locs (hP.set hD ha ?_ (fun _ _ => rfl)) (hD.set ha) hS
  have := hP q0 _ ha
  show H[a]? = some (vp_cell cI (N, y))
  rw [← hc]; exact this
def S0 : ZSt := (fun k => if k = 1 then (fun j => if j = 11 then 20 else 0) else if k = 10 then (fun j => if j = 11 then 20 else 0) else if k = 20 then (fun j => if j = 11 then 20 else 0) else if k = 29 then (fun j => if j = 11 then 20 else 0) else if k = 56 then upd (upd (upd (upd (fun _ => 0) 0 (-1)) 1 (-1)) 2 (-1)) 3 (-1) else fun _ => 0, fun _ => fun _ => 0)
def mk6 (u : Nat → Nat) (cA : Nat → ClassId) : va_W := (List.range 57).map fun k => (u k, zen u cA S0 k)
theorem met_X6 : cMet mX6_init 6 [.null, .null, .null, .null, .null, .null, .null, .null, .null, .int 0] mk6 { frames := 2, cells := 56, slots := 1487, locals := 32 } 56 1487 := by
  refine cMet.of cw_X6_init rfl rfl rfl ⟨by decide, by decide⟩ (fun p l e s m args below meth c D cA h0 A ls C => ?_)
  refine c_aload C dX6_init_0 ?_
  refine c_obj C dX6_init_1 (zg_1_0 _ (List.mem_of_getElem? (i := 20) rfl) rfl) ?_
  refine c_aload C dX6_init_4 ?_
  refine c_new (ci := 2) (fs := [.null, .null, .null, .null, .null, .null, .null, .null, .int 0, .int 0, .int 0, .int 0, .int 0, .int 0]) C dX6_init_5 (zg_1_0 _ (List.mem_of_getElem? (i := 23) rfl) rfl) (zg_1_0 _ (List.mem_of_getElem? (i := 24) rfl) rfl) ini_X2 (Nat.le_of_ble_eq_true rfl) (by decide) (Nat.le_of_ble_eq_true rfl) (Nat.le_of_ble_eq_true rfl) (fun q => ?_)
  refine c_dup C dX6_init_8 rfl ?_
  refine c_ctor (ci := 2) met_X2 C dX6_init_9 ml_X6_9 cw_X2_init (zg_1_0 _ (List.mem_of_getElem? (i := 26) rfl) rfl) rfl rfl rfl rfl ⟨(Nat.le_of_ble_eq_true rfl), (Nat.le_of_ble_eq_true rfl)⟩ (Nat.le_of_ble_eq_true rfl) ⟨(Nat.le_of_ble_eq_true rfl), (Nat.le_of_ble_eq_true rfl)⟩ (fun u1 hu => ?_)
  subst hu
  refine c_putF C dX6_init_12 fl_X6_10 ⟨(Nat.le_of_ble_eq_true rfl), (Nat.le_of_ble_eq_true rfl)⟩ rfl rfl rfl rfl (Nat.le_of_ble_eq_true rfl) ?_
  refine c_aload C dX6_init_15 ?_
  refine c_new (ci := 2) (fs := [.null, .null, .null, .null, .null, .null, .null, .null, .int 0, .int 0, .int 0, .int 0, .int 0, .int 0]) C dX6_init_16 (zg_1_0 _ (List.mem_of_getElem? (i := 23) rfl) rfl) (zg_1_0 _ (List.mem_of_getElem? (i := 24) rfl) rfl) ini_X2 (Nat.le_of_ble_eq_true rfl) (by decide) (Nat.le_of_ble_eq_true rfl) (Nat.le_of_ble_eq_true rfl) (fun q => ?_)
  refine c_dup C dX6_init_19 rfl ?_
  refine c_ctor (ci := 2) met_X2 C dX6_init_20 ml_X6_9 cw_X2_init (zg_1_0 _ (List.mem_of_getElem? (i := 26) rfl) rfl) rfl rfl rfl rfl ⟨(Nat.le_of_ble_eq_true rfl), (Nat.le_of_ble_eq_true rfl)⟩ (Nat.le_of_ble_eq_true rfl) ⟨(Nat.le_of_ble_eq_true rfl), (Nat.le_of_ble_eq_true rfl)⟩ (fun u2 hu => ?_)
  subst hu
  refine c_putF C dX6_init_23 fl_X6_16 ⟨(Nat.le_of_ble_eq_true rfl), (Nat.le_of_ble_eq_true rfl)⟩ rfl rfl rfl rfl (Nat.le_of_ble_eq_true rfl) ?_
  refine c_aload C dX6_init_26 ?_
  refine c_iconst (v := 2) C dX6_init_27 (by decide) ?_
  refine c_newq (N := 2) C dX6_init_28 (zg_1_0 _ (List.mem_of_getElem? (i := 23) rfl) rfl) (by decide) (by decide) (Nat.le_of_ble_eq_true rfl) (Nat.le_of_ble_eq_true rfl) (Nat.le_of_ble_eq_true rfl) (fun qi => ?_)
  refine c_dup C dX6_init_31 rfl ?_
  refine c_iconst (v := 0) C dX6_init_32 (by decide) ?_
  refine c_new (ci := 2) (fs := [.null, .null, .null, .null, .null, .null, .null, .null, .int 0, .int 0, .int 0, .int 0, .int 0, .int 0]) C dX6_init_33 (zg_1_0 _ (List.mem_of_getElem? (i := 23) rfl) rfl) (zg_1_0 _ (List.mem_of_getElem? (i := 24) rfl) rfl) ini_X2 (Nat.le_of_ble_eq_true rfl) (by decide) (Nat.le_of_ble_eq_true rfl) (Nat.le_of_ble_eq_true rfl) (fun q => ?_)
  refine c_dup C dX6_init_36 rfl ?_
  refine c_ctor (ci := 2) met_X2 C dX6_init_37 ml_X6_9 cw_X2_init (zg_1_0 _ (List.mem_of_getElem? (i := 26) rfl) rfl) rfl rfl rfl rfl ⟨(Nat.le_of_ble_eq_true rfl), (Nat.le_of_ble_eq_true rfl)⟩ (Nat.le_of_ble_eq_true rfl) ⟨(Nat.le_of_ble_eq_true rfl), (Nat.le_of_ble_eq_true rfl)⟩ (fun u3 hu => ?_)
  subst hu
  refine c_aast (q0 := 19) (qk := 20) C dX6_init_40 rfl rfl (by unfold vp_in; decide) ?_
  refine c_dup C dX6_init_41 rfl ?_
  refine c_iconst (v := 1) C dX6_init_42 (by decide) ?_
  refine c_new (ci := 2) (fs := [.null, .null, .null, .null, .null, .null, .null, .null, .int 0, .int 0, .int 0, .int 0, .int 0, .int 0]) C dX6_init_43 (zg_1_0 _ (List.mem_of_getElem? (i := 23) rfl) rfl) (zg_1_0 _ (List.mem_of_getElem? (i := 24) rfl) rfl) ini_X2 (Nat.le_of_ble_eq_true rfl) (by decide) (Nat.le_of_ble_eq_true rfl) (Nat.le_of_ble_eq_true rfl) (fun q => ?_)
  refine c_dup C dX6_init_46 rfl ?_
  refine c_ctor (ci := 2) met_X2 C dX6_init_47 ml_X6_9 cw_X2_init (zg_1_0 _ (List.mem_of_getElem? (i := 26) rfl) rfl) rfl rfl rfl rfl ⟨(Nat.le_of_ble_eq_true rfl), (Nat.le_of_ble_eq_true rfl)⟩ (Nat.le_of_ble_eq_true rfl) ⟨(Nat.le_of_ble_eq_true rfl), (Nat.le_of_ble_eq_true rfl)⟩ (fun u4 hu => ?_)
  subst hu
  refine c_aast (q0 := 19) (qk := 29) C dX6_init_50 rfl rfl (by unfold vp_in; decide) ?_
  refine c_putF C dX6_init_51 fl_X6_19 ⟨(Nat.le_of_ble_eq_true rfl), (Nat.le_of_ble_eq_true rfl)⟩ rfl rfl rfl rfl (Nat.le_of_ble_eq_true rfl) ?_
  refine c_aload C dX6_init_54 ?_
  refine c_iconst (v := 2) C dX6_init_55 (by decide) ?_
  refine c_newa (t := 1) (N := 2) (a0 := (2, .inl (fun _ => 0))) C dX6_init_56 rfl rfl RA_bool (Or.inr (Or.inl rfl)) (fun _ => rfl) (by decide) (by decide) (Nat.le_of_ble_eq_true rfl) (Nat.le_of_ble_eq_true rfl) (Nat.le_of_ble_eq_true rfl) (fun qk => ?_)
  refine c_putF C dX6_init_58 fl_X6_23 ⟨(Nat.le_of_ble_eq_true rfl), (Nat.le_of_ble_eq_true rfl)⟩ rfl rfl rfl rfl (Nat.le_of_ble_eq_true rfl) ?_
  refine c_aload C dX6_init_61 ?_
  refine c_new (ci := 5) (fs := [.null, .int 0, .int 0, .int 0, .int 0, .int 0, .int 0, .int 0, .int 0]) C dX6_init_62 (zg_1_2 _ (List.mem_of_getElem? (i := 31) rfl) rfl) (zg_1_3 _ (List.mem_of_getElem? (i := 0) rfl) rfl) ini_X5 (Nat.le_of_ble_eq_true rfl) (by decide) (Nat.le_of_ble_eq_true rfl) (Nat.le_of_ble_eq_true rfl) (fun q => ?_)
  refine c_dup C dX6_init_65 rfl ?_
  refine c_ctor (ci := 5) met_X5 C dX6_init_66 ml_X6_29 cw_X5_init (zg_1_3 _ (List.mem_of_getElem? (i := 2) rfl) rfl) rfl rfl rfl rfl ⟨(Nat.le_of_ble_eq_true rfl), (Nat.le_of_ble_eq_true rfl)⟩ (Nat.le_of_ble_eq_true rfl) ⟨(Nat.le_of_ble_eq_true rfl), (Nat.le_of_ble_eq_true rfl)⟩ (fun u5 hu => ?_)
  subst hu
  refine c_putF C dX6_init_69 fl_X6_30 ⟨(Nat.le_of_ble_eq_true rfl), (Nat.le_of_ble_eq_true rfl)⟩ rfl rfl rfl rfl (Nat.le_of_ble_eq_true rfl) ?_
  refine c_aload C dX6_init_72 ?_
  refine c_new (ci := 3) (fs := [.null, .null, .null, .null, .int 0, .int 0]) C dX6_init_73 (zg_1_4 _ (List.mem_of_getElem? (i := 6) rfl) rfl) (zg_1_4 _ (List.mem_of_getElem? (i := 7) rfl) rfl) ini_X3 (Nat.le_of_ble_eq_true rfl) (by decide) (Nat.le_of_ble_eq_true rfl) (Nat.le_of_ble_eq_true rfl) (fun q => ?_)
  refine c_dup C dX6_init_76 rfl ?_
  refine c_ctor (ci := 3) met_X3 C dX6_init_77 ml_X6_36 cw_X3_init (zg_1_4 _ (List.mem_of_getElem? (i := 9) rfl) rfl) rfl rfl rfl rfl ⟨(Nat.le_of_ble_eq_true rfl), (Nat.le_of_ble_eq_true rfl)⟩ (Nat.le_of_ble_eq_true rfl) ⟨(Nat.le_of_ble_eq_true rfl), (Nat.le_of_ble_eq_true rfl)⟩ (fun u6 hu => ?_)
  subst hu
  refine c_putF C dX6_init_80 fl_X6_37 ⟨(Nat.le_of_ble_eq_true rfl), (Nat.le_of_ble_eq_true rfl)⟩ rfl rfl rfl rfl (Nat.le_of_ble_eq_true rfl) ?_
  refine c_aload C dX6_init_83 ?_
  refine c_new (ci := 1) (fs := [.null, .null, .null, .int 0]) C dX6_init_84 (zg_1_5 _ (List.mem_of_getElem? (i := 1) rfl) rfl) (zg_1_5 _ (List.mem_of_getElem? (i := 2) rfl) rfl) ini_X1 (Nat.le_of_ble_eq_true rfl) (by decide) (Nat.le_of_ble_eq_true rfl) (Nat.le_of_ble_eq_true rfl) (fun q => ?_)
  refine c_dup C dX6_init_87 rfl ?_
  refine c_ctor (ci := 1) met_X1 C dX6_init_88 ml_X6_43 cw_X1_init (zg_1_5 _ (List.mem_of_getElem? (i := 4) rfl) rfl) rfl rfl rfl rfl ⟨(Nat.le_of_ble_eq_true rfl), (Nat.le_of_ble_eq_true rfl)⟩ (Nat.le_of_ble_eq_true rfl) ⟨(Nat.le_of_ble_eq_true rfl), (Nat.le_of_ble_eq_true rfl)⟩ (fun u7 hu => ?_)
  subst hu
  refine c_putF C dX6_init_91 fl_X6_44 ⟨(Nat.le_of_ble_eq_true rfl), (Nat.le_of_ble_eq_true rfl)⟩ rfl rfl rfl rfl (Nat.le_of_ble_eq_true rfl) ?_
  refine c_aload C dX6_init_94 ?_
  refine c_new (ci := 0) (fs := [.null, .null, .int 0]) C dX6_init_95 (zg_1_5 _ (List.mem_of_getElem? (i := 21) rfl) rfl) (zg_1_5 _ (List.mem_of_getElem? (i := 22) rfl) rfl) ini_X0 (Nat.le_of_ble_eq_true rfl) (by decide) (Nat.le_of_ble_eq_true rfl) (Nat.le_of_ble_eq_true rfl) (fun q => ?_)
  refine c_dup C dX6_init_98 rfl ?_
  refine c_ctor (ci := 0) met_X0 C dX6_init_99 ml_X6_50 cw_X0_init (zg_1_5 _ (List.mem_of_getElem? (i := 24) rfl) rfl) rfl rfl rfl rfl ⟨(Nat.le_of_ble_eq_true rfl), (Nat.le_of_ble_eq_true rfl)⟩ (Nat.le_of_ble_eq_true rfl) ⟨(Nat.le_of_ble_eq_true rfl), (Nat.le_of_ble_eq_true rfl)⟩ (fun u8 hu => ?_)
  subst hu
  refine c_putF C dX6_init_102 fl_X6_51 ⟨(Nat.le_of_ble_eq_true rfl), (Nat.le_of_ble_eq_true rfl)⟩ rfl rfl rfl rfl (Nat.le_of_ble_eq_true rfl) ?_
  refine c_aload C dX6_init_105 ?_
  refine c_new (ci := 4) (fs := [.null, .null, .null]) C dX6_init_106 (zg_1_6 _ (List.mem_of_getElem? (i := 6) rfl) rfl) (zg_1_6 _ (List.mem_of_getElem? (i := 7) rfl) rfl) ini_X4 (Nat.le_of_ble_eq_true rfl) (by decide) (Nat.le_of_ble_eq_true rfl) (Nat.le_of_ble_eq_true rfl) (fun q => ?_)
  refine c_dup C dX6_init_109 rfl ?_
  refine c_ctor (ci := 4) met_X4 C dX6_init_110 ml_X6_57 cw_X4_init (zg_1_6 _ (List.mem_of_getElem? (i := 9) rfl) rfl) rfl rfl rfl rfl ⟨(Nat.le_of_ble_eq_true rfl), (Nat.le_of_ble_eq_true rfl)⟩ (Nat.le_of_ble_eq_true rfl) ⟨(Nat.le_of_ble_eq_true rfl), (Nat.le_of_ble_eq_true rfl)⟩ (fun u9 hu => ?_)
  subst hu
  refine c_putF C dX6_init_113 fl_X6_58 ⟨(Nat.le_of_ble_eq_true rfl), (Nat.le_of_ble_eq_true rfl)⟩ rfl rfl rfl rfl (Nat.le_of_ble_eq_true rfl) ?_
  refine c_aload C dX6_init_116 ?_
  refine c_iconst (v := 0) C dX6_init_117 (by decide) ?_
  refine c_put C dX6_init_118 fl_X6_62 ⟨(Nat.le_of_ble_eq_true rfl), (Nat.le_of_ble_eq_true rfl)⟩ rfl rfl rfl (Nat.le_of_ble_eq_true rfl) ?_
  refine c_cell (q0 := 19) (y := .inr (.inr (.inr (.inr (fun i => some ([h0, u1 0, u1 1, u1 2, u1 3, u1 4, u1 5, u1 6, u1 7, u1 8, u2 0, u2 1, u2 2, u2 3, u2 4, u2 5, u2 6, u2 7, u2 8, qi, u3 0, u3 1, u3 2, u3 3, u3 4, u3 5, u3 6, u3 7, u3 8, u4 0, u4 1, u4 2, u4 3, u4 4, u4 5, u4 6, u4 7, u4 8, qk, u5 0, u5 1, u6 0, u6 1, u6 2, u6 3, u6 4, u7 0, u7 1, u7 2, u7 3, u8 0, u8 1, u8 2, u9 0, u9 1, u9 2, u9 3].getD (if i = 0 then 20 else 29) 0)))))) rfl (cell2 _ _ _ rfl rfl) ?_
  exact c_ret (mk := mk6) (u := fun i => [h0, u1 0, u1 1, u1 2, u1 3, u1 4, u1 5, u1 6, u1 7, u1 8, u2 0, u2 1, u2 2, u2 3, u2 4, u2 5, u2 6, u2 7, u2 8, qi, u3 0, u3 1, u3 2, u3 3, u3 4, u3 5, u3 6, u3 7, u3 8, u4 0, u4 1, u4 2, u4 3, u4 4, u4 5, u4 6, u4 7, u4 8, qk, u5 0, u5 1, u6 0, u6 1, u6 2, u6 3, u6 4, u7 0, u7 1, u7 2, u7 3, u8 0, u8 1, u8 2, u9 0, u9 1, u9 2, u9 3].getD i 0) C dX6_init_121 rfl
