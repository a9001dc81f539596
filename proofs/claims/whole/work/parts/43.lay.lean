/-! lay -/
def nwB (ln : Nat) (v : Int32) : Int32 := if ln = 0 then v.toInt8.toInt32 else if ln = 1 then v.toInt16.toInt32 else v
def updC (ce : Nat → Int32) (j : Nat) (x : Int32) : Nat → Int32 := fun t => if t = j then x else ce t
theorem nI3 {ln : Nat} (h : ln ≤ 2) : (nI ln = 0 ↔ ln = 0) ∧ (nI ln = 1 ↔ ln = 1) := by
  rcases (show ln = 0 ∨ ln = 1 ∨ ln = 2 by omega) with rfl | rfl | rfl <;> decide
theorem ev_lowestBits {d : Nat} (S : ZSt) (ln : Nat) (v : Int32) (h : ln ≤ 2) : zEv d mX4_lowestBits [.int (nI ln), .int v] S (zX (some (.int (nwB ln v))) S) := by
  have e := nI3 h
  refine zEv.of cw_X4_lowestBits (Nat.le_of_ble_eq_true rfl) rfl (blk_X4_lowestBits_0 ⟨fun q => ?_, fun q => ?_, fun q q2 => ?_⟩)
  · unfold nwB; rw [if_pos (e.1.mp q)]; exact ⟨rfl, rfl⟩
  · have := e.2.mp q; unfold nwB; rw [if_neg (by omega), if_pos this]; exact ⟨rfl, rfl⟩
  · unfold nwB; rw [if_neg (fun z => q (e.1.mpr z)), if_neg (fun z => q2 (e.2.mpr z))]; exact ⟨rfl, rfl⟩
/-- what is wrong with a place of a sheet -/
def fltA (sh : Sh) (i : Nat) (ln : Int32) (v : Int32) : Int32 := match sh i with
  | none => 1
  | some (l, sz, _) => if nI l = ln then (if 0 ≤ v.toInt ∧ v.toInt ≤ (sz : Int) - 1 then 0 else 2) else 3
theorem ev_faultAt {d : Nat} (hd : 1 ≤ d) {S : ZSt} {sh : Sh} (h : SC S sh) (hw : SW sh) (i : Nat) (hi : i < 4) (ln v : Int32) : zEv d mX4_faultAt [.ref 53, .int (nI i), .int ln, .int v] S (zX (some (.int (fltA sh i ln v))) S) := by
  obtain ⟨d, rfl⟩ : ∃ d', d = d' + 1 := ⟨d - 1, by omega⟩
  refine zEv.of cw_X4_faultAt (Nat.le_of_ble_eq_true rfl) rfl (blk_X4_faultAt_0 ⟨ix_in (by omega) (by omega), ?_⟩)
  rw [ix_cl (by omega)]
  unfold fltA
  cases e : sh i with
  | none =>
    rw [(h i hi).1 e]
    exact ⟨fun q => absurd q (by decide), fun _ => ⟨rfl, rfl⟩⟩
  | some x =>
    obtain ⟨l, sz, ce⟩ := x
    have o := (h i hi).2 l sz ce e
    have w := hw i l sz ce e
    rw [o.1, o.2.1]
    refine ⟨fun _ => ⟨ix_in (by omega) (by omega), fun q => ⟨ix_in (by omega) (by omega), ?_⟩, fun q => ?_⟩, fun q => absurd (nI_le40 w.2).2 q⟩
    · have ei := ev_within (d := d) S v 0 (nI sz - 1)
      have e1 : (nI sz - 1 : Int32).toInt = (sz : Int) - 1 := by rw [nI_iv, k1, iv_sub, iv_toInt (by unfold inB; omega)]
      rw [e1, show Int32.toInt 0 = 0 from by decide] at ei
      refine ⟨_, S, ei, b01_if (fun q2 => ?_) (fun q2 => ?_)⟩
      · simp only [q, if_true, q2, if_false]; exact ⟨rfl, rfl⟩
      · simp only [q, if_true, q2]; exact ⟨rfl, rfl⟩
    · simp only [q, if_false]; exact ⟨rfl, rfl⟩
/-- the lane that lay goes by -/
def layB (sh : Sh) (i : Nat) (v : Int32) : Int32 := match sh i with
  | none => -11
  | some (_, sz, _) => if 0 ≤ v.toInt ∧ v.toInt ≤ (sz : Int) - 1 then 1 else -12
theorem ev_layC0 {d : Nat} (hd : 9 ≤ d) {S : ZSt} {sh : Sh} (h : SC S sh) (hw : SW sh) (i : Nat) (hi : i < 4) (v2 v3 : Int32) (hb : layB sh i v2 ≠ 1) : zEv d mX6_lay [.ref 0, .int (nI i), .int v2, .int v3] S (zX (some (.int (layB sh i v2))) S) := by
  obtain ⟨d, rfl, hd⟩ := dsucc hd
  have c1 : (0 : Int) ≤ (nI i).toInt ∧ (nI i).toInt ≤ 3 := by rw [nI_toInt (by omega)]; omega
  refine zEv.of cw_X6_lay (Nat.le_of_ble_eq_true rfl) rfl (blk_X6_lay_0 ⟨_, S, ev_within S _ 0 3, b01_if' (fun _ => ⟨ix_in (by omega) (by omega), ?_⟩) (fun q => absurd c1 q)⟩)
  rw [ix_cl (by omega)]
  refine ⟨_, S, ev_faultAt (by omega) h hw i hi _ _, ?_⟩
  unfold layB at hb ⊢
  unfold fltA
  cases e : sh i with
  | none =>
    simp only []
    have m11 : (-10 : Int32) - 1 = -11 := by decide
    rw [m11]
    exact ⟨fun q => absurd q (by decide), fun _ => ⟨rfl, rfl⟩⟩
  | some x =>
    obtain ⟨l, sz, ce⟩ := x
    have o := (h i hi).2 l sz ce e
    rw [e] at hb
    simp only [] at hb
    by_cases q : 0 ≤ v2.toInt ∧ v2.toInt ≤ (sz : Int) - 1
    · exact absurd (if_pos q) hb
    · simp only [o.1, if_true, q, if_false]
      have m12 : (-10 : Int32) - 2 = -12 := by decide
      rw [m12]
      exact ⟨fun q => absurd q (by decide), fun _ => ⟨rfl, rfl⟩⟩
theorem ev_layM0 {d : Nat} (hd : 9 ≤ d) {S : ZSt} {sh : Sh} (h : SM S sh) (hw : SW sh) (i : Nat) (hi : i < 4) (v2 v3 : Int32) (hb : layB sh i v2 ≠ 1) : zEv d mX7_lay [.ref 57, .int (nI i), .int v2, .int v3] S (zX (some (.int (layB sh i v2))) S) := by
  obtain ⟨d, rfl, hd⟩ := dsucc hd
  have c1 : ((0 : Int) ≤ (nI i).toInt ∧ (nI i).toInt ≤ 3) ∧ ((0 : Int) ≤ Int32.toInt 0 ∧ Int32.toInt 0 ≤ 2) := by rw [nI_toInt (by omega), show Int32.toInt 0 = 0 from by decide]; omega
  refine zEv.of cw_X7_lay (Nat.le_of_ble_eq_true rfl) rfl (blk_X7_lay_0 ⟨_, S, ev_isSheet (by omega) S _ 0, b01_if' (fun _ => ⟨ix_in (by omega) (by omega), ?_⟩) (fun q => absurd c1 q)⟩)
  rw [ix_cl (by omega)]
  unfold layB at hb ⊢
  cases e : sh i with
  | none =>
    rw [(h i hi).1 e]
    exact ⟨fun q => absurd rfl q, fun _ => ⟨rfl, rfl⟩⟩
  | some x =>
    obtain ⟨l, sz, ce⟩ := x
    have o := (h i hi).2 l sz ce e
    have w := hw i l sz ce e
    rw [e] at hb
    simp only [] at hb
    rw [o.1, o.2.1]
    have n4 : ¬ nI l = -4 := by rcases (show l = 0 ∨ l = 1 ∨ l = 2 by omega) with rfl | rfl | rfl <;> decide
    have e1 : (nI sz - 1 : Int32).toInt64.toInt = (sz : Int) - 1 := by rw [Int32.toInt_toInt64, nI_iv, k1, iv_sub, iv_toInt (by unfold inB; omega)]
    refine ⟨fun _ => ⟨ix_in (by omega) (by omega), _, S, ev_inI S v2 0 _ 0 ((sz : Int) - 1) rfl e1, b01_if' (fun q => ?_) (fun q => ?_)⟩, fun q => absurd q n4⟩
    · exact absurd (if_pos q) hb
    · simp only [q, if_false]; exact ⟨rfl, rfl⟩
