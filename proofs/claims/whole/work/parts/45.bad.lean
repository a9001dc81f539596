/-! keep, back, lay: refused -/
theorem ev_keepCx {d : Nat} (hd : 9 ≤ d) (S : ZSt) (v : Int32) (c : ¬ ((0 : Int) ≤ v.toInt ∧ v.toInt ≤ 1)) : zEv d mX6_keep [.ref 0, .int v] S (zX (some (.int (-1))) S) := by
  obtain ⟨d, rfl, hd⟩ := dsucc hd
  exact zEv.of cw_X6_keep (Nat.le_of_ble_eq_true rfl) rfl (blk_X6_keep_0 ⟨_, S, ev_within S v 0 1, b01_if' (fun q => absurd q c) (fun _ => ⟨rfl, rfl⟩)⟩)
theorem ev_keepMx {d : Nat} (hd : 9 ≤ d) (S : ZSt) (v : Int32) (c : ¬ ((0 : Int) ≤ v.toInt ∧ v.toInt ≤ 1)) : zEv d mX7_keep [.ref 57, .int v] S (zX (some (.int (-1))) S) := by
  obtain ⟨d, rfl, hd⟩ := dsucc hd
  exact zEv.of cw_X7_keep (Nat.le_of_ble_eq_true rfl) rfl (blk_X7_keep_0 ⟨_, S, ev_inI S v 0 1 0 1 rfl rfl, b01_if' (fun q => absurd q c) (fun _ => ⟨rfl, rfl⟩)⟩)
theorem ev_backCx {d : Nat} (hd : 9 ≤ d) (S : ZSt) (v : Int32) (c : ¬ ((0 : Int) ≤ v.toInt ∧ v.toInt ≤ 1)) : zEv d mX6_back [.ref 0, .int v] S (zX (some (.int (-1))) S) := by
  obtain ⟨d, rfl, hd⟩ := dsucc hd
  exact zEv.of cw_X6_back (Nat.le_of_ble_eq_true rfl) rfl (blk_X6_back_0 ⟨_, S, ev_within S v 0 1, b01_if' (fun q => absurd q c) (fun _ => ⟨rfl, rfl⟩)⟩)
theorem ev_backMx {d : Nat} (hd : 9 ≤ d) (S : ZSt) (v : Int32) (c : ¬ ((0 : Int) ≤ v.toInt ∧ v.toInt ≤ 1)) : zEv d mX7_back [.ref 57, .int v] S (zX (some (.int (-1))) S) := by
  obtain ⟨d, rfl, hd⟩ := dsucc hd
  exact zEv.of cw_X7_back (Nat.le_of_ble_eq_true rfl) rfl (blk_X7_back_0 ⟨_, S, ev_inI S v 0 1 0 1 rfl rfl, b01_if' (fun q => absurd q c) (fun _ => ⟨rfl, rfl⟩)⟩)
theorem ev_layCx {d : Nat} (hd : 9 ≤ d) (S : ZSt) (v1 v2 v3 : Int32) (c : ¬ ((0 : Int) ≤ v1.toInt ∧ v1.toInt ≤ 3)) : zEv d mX6_lay [.ref 0, .int v1, .int v2, .int v3] S (zX (some (.int (-1))) S) := by
  obtain ⟨d, rfl, hd⟩ := dsucc hd
  exact zEv.of cw_X6_lay (Nat.le_of_ble_eq_true rfl) rfl (blk_X6_lay_0 ⟨_, S, ev_within S v1 0 3, b01_if' (fun q => absurd q c) (fun _ => ⟨rfl, rfl⟩)⟩)
theorem ev_layMx {d : Nat} (hd : 9 ≤ d) (S : ZSt) (v1 v2 v3 : Int32) (c : ¬ ((0 : Int) ≤ v1.toInt ∧ v1.toInt ≤ 3)) : zEv d mX7_lay [.ref 57, .int v1, .int v2, .int v3] S (zX (some (.int (-1))) S) := by
  obtain ⟨d, rfl, hd⟩ := dsucc hd
  exact zEv.of cw_X7_lay (Nat.le_of_ble_eq_true rfl) rfl (blk_X7_lay_0 ⟨_, S, ev_isSheet (by omega) S v1 0, b01_if' (fun q => absurd q.1 c) (fun _ => ⟨rfl, rfl⟩)⟩)
