/-! lay, where it lays -/
theorem SC_put {S : ZSt} {sh : Sh} (h : SC S sh) (hw : SW sh) {i ln sz j : Nat} {ce : Nat → Int32} (hi : i < 4) (e : sh i = some (ln, sz, ce)) (hj : j < sz) (x : Int32) : SC (pI S 54 (i * 40 + j) x) (updS sh i (ln, sz, updC ce j x)) := by
  have w := hw i ln sz ce e
  have o := (h i hi).2 ln sz ce e
  intro y hy
  unfold updS
  by_cases q : y = i
  · rw [if_pos q]
    refine ⟨fun z => absurd z (by simp), fun ln1 sz1 ce1 ee => ?_⟩
    have ee := Option.some.inj ee
    have a1 : ln = ln1 := congrArg Prod.fst ee
    have a2 : sz = sz1 := congrArg (fun z => z.2.1) ee
    have a3 : updC ce j x = ce1 := congrArg (fun z => z.2.2) ee
    subst a1 a2 a3
    rw [gI_pI, if_neg (by omega), gI_pI, if_neg (by omega), q]
    refine ⟨o.1, o.2.1, fun t ht => ?_⟩
    rw [gI_pI]; unfold updC
    by_cases q2 : t = j
    · rw [if_pos ⟨rfl, by omega⟩, if_pos q2]
    · rw [if_neg (by omega), if_neg q2]; exact o.2.2 t ht
  · rw [if_neg q]
    refine ⟨fun z => by rw [gI_pI, if_neg (by omega)]; exact (h y hy).1 z, fun ln1 sz1 ce1 ee => ?_⟩
    have o1 := (h y hy).2 ln1 sz1 ce1 ee
    have w1 := hw y ln1 sz1 ce1 ee
    rw [gI_pI, if_neg (by omega), gI_pI, if_neg (by omega)]
    exact ⟨o1.1, o1.2.1, fun t ht => by rw [gI_pI, if_neg (by omega)]; exact o1.2.2 t ht⟩
theorem SM_put {S : ZSt} {sh : Sh} (h : SM S sh) (hw : SW sh) {i ln sz j : Nat} {ce : Nat → Int32} (hi : i < 4) (e : sh i = some (ln, sz, ce)) (hj : j < sz) (x : Int32) : SM (pI S 68 (i * 40 + j) x) (updS sh i (ln, sz, updC ce j x)) := by
  have w := hw i ln sz ce e
  have o := (h i hi).2 ln sz ce e
  intro y hy
  unfold updS
  by_cases q : y = i
  · rw [if_pos q]
    refine ⟨fun z => absurd z (by simp), fun ln1 sz1 ce1 ee => ?_⟩
    have ee := Option.some.inj ee
    have a1 : ln = ln1 := congrArg Prod.fst ee
    have a2 : sz = sz1 := congrArg (fun z => z.2.1) ee
    have a3 : updC ce j x = ce1 := congrArg (fun z => z.2.2) ee
    subst a1 a2 a3
    rw [gI_pI, if_neg (by omega), gI_pI, if_neg (by omega), q]
    refine ⟨o.1, o.2.1, fun t ht => ?_⟩
    rw [gI_pI]; unfold updC
    by_cases q2 : t = j
    · rw [if_pos ⟨rfl, by omega⟩, if_pos q2]
    · rw [if_neg (by omega), if_neg q2]; exact o.2.2 t ht
  · rw [if_neg q]
    refine ⟨fun z => by rw [gI_pI, if_neg (by omega)]; exact (h y hy).1 z, fun ln1 sz1 ce1 ee => ?_⟩
    have o1 := (h y hy).2 ln1 sz1 ce1 ee
    have w1 := hw y ln1 sz1 ce1 ee
    rw [gI_pI, if_neg (by omega), gI_pI, if_neg (by omega)]
    exact ⟨o1.1, o1.2.1, fun t ht => by rw [gI_pI, if_neg (by omega)]; exact o1.2.2 t ht⟩
theorem ev_layC {d : Nat} (hd : 9 ≤ d) {S : ZSt} {sh : Sh} (h : SC S sh) (hw : SW sh) {i ln sz j : Nat} {ce : Nat → Int32} (hi : i < 4) (e : sh i = some (ln, sz, ce)) (hj : j < sz) (v3 : Int32) : zEv d mX6_lay [.ref 0, .int (nI i), .int (nI j), .int v3] S (zY (some (.int 1)) (fun S' => SC S' (updS sh i (ln, sz, updC ce j (nwB ln v3))) ∧ FrI scP S S')) := by
  obtain ⟨d, rfl, hd⟩ := dsucc hd
  obtain ⟨d, rfl⟩ : ∃ d', d = d' + 1 := ⟨d - 1, by omega⟩
  have w := hw i ln sz ce e
  have o := (h i hi).2 ln sz ce e
  have c1 : (0 : Int) ≤ (nI i).toInt ∧ (nI i).toInt ≤ 3 := by rw [nI_toInt (by omega)]; omega
  have c2 : 0 ≤ (nI j).toInt ∧ (nI j).toInt ≤ (sz : Int) - 1 := by rw [nI_toInt (by omega)]; omega
  refine zEv.of cw_X6_lay (Nat.le_of_ble_eq_true rfl) rfl (blk_X6_lay_0 ⟨_, S, ev_within S _ 0 3, b01_if' (fun _ => ⟨ix_in (by omega) (by omega), ?_⟩) (fun q => absurd c1 q)⟩)
  rw [ix_cl (by omega)]
  have f0 : fltA sh i (gI S 55 i) (nI j) = 0 := by
    unfold fltA; rw [e, o.1]
    simp only [if_true, c2, and_self]
  have ef := ev_faultAt (d := d + 1) (by omega) h hw i hi (gI S 55 i) (nI j)
  rw [f0] at ef
  refine ⟨_, S, ef, fun _ => ?_, fun z => absurd rfl z⟩
  have ep : zEv (d + 1) mX4_put [.ref 53, .int (nI i), .int (nI j), .int v3] S (zY none (fun S' => S' = pI S 54 (i * 40 + j) (nwB ln v3))) := by
    refine zEv.of cw_X4_put (Nat.le_of_ble_eq_true rfl) rfl (blk_X4_put_0 ⟨ix_in (by omega) (by omega), ?_⟩)
    rw [ix_cl (by omega), o.1, ix40, ix_cl (by omega)]
    exact ⟨_, S, ev_lowestBits S ln v3 w.1, ix_in (by omega) (by omega), rfl, rfl⟩
  refine ⟨_, ep, fun S5 k5 => ⟨rfl, ?_, ?_⟩⟩
  · rw [k5]; exact SC_put h hw hi e hj _
  · rw [k5]; exact (FrI.rf _ _).pI _ (by unfold scP; omega)
theorem ev_layM {d : Nat} (hd : 9 ≤ d) {S : ZSt} {sh : Sh} (h : SM S sh) (hw : SW sh) {i ln sz j : Nat} {ce : Nat → Int32} (hi : i < 4) (e : sh i = some (ln, sz, ce)) (hj : j < sz) (v3 : Int32) : zEv d mX7_lay [.ref 57, .int (nI i), .int (nI j), .int v3] S (zY (some (.int 1)) (fun S' => SM S' (updS sh i (ln, sz, updC ce j (nwB ln v3))) ∧ FrI smP S S')) := by
  obtain ⟨d, rfl, hd⟩ := dsucc hd
  have w := hw i ln sz ce e
  have o := (h i hi).2 ln sz ce e
  have n3 := nI3 w.1
  have c1 : ((0 : Int) ≤ (nI i).toInt ∧ (nI i).toInt ≤ 3) ∧ ((0 : Int) ≤ Int32.toInt 0 ∧ Int32.toInt 0 ≤ 2) := by rw [nI_toInt (by omega), show Int32.toInt 0 = 0 from by decide]; omega
  have c2 : 0 ≤ (nI j).toInt ∧ (nI j).toInt ≤ (sz : Int) - 1 := by rw [nI_toInt (by omega)]; omega
  have n4 : ¬ nI ln = -4 := by rcases (show ln = 0 ∨ ln = 1 ∨ ln = 2 by omega) with rfl | rfl | rfl <;> decide
  have e1 : (nI sz - 1 : Int32).toInt64.toInt = (sz : Int) - 1 := by rw [Int32.toInt_toInt64, nI_iv, k1, iv_sub, iv_toInt (by unfold inB; omega)]
  have fin : ∀ x, x = nwB ln v3 → vp_in ((40 : Int32) * nI i + nI j) 160 ∧ zY (some (.int 1)) (fun S' => SM S' (updS sh i (ln, sz, updC ce j (nwB ln v3))) ∧ FrI smP S S') (some (.int 1)) (pI S 68 ((40 : Int32) * nI i + nI j).toNatClampNeg x) := by
    intro x ex
    rw [ix40', ix_cl (by omega), ex]
    exact ⟨ix_in (by omega) (by omega), rfl, SM_put h hw hi e hj _, (FrI.rf _ _).pI _ (by unfold smP; omega)⟩
  refine zEv.of cw_X7_lay (Nat.le_of_ble_eq_true rfl) rfl (blk_X7_lay_0 ⟨_, S, ev_isSheet (by omega) S _ 0, b01_if' (fun _ => ⟨ix_in (by omega) (by omega), ?_⟩) (fun q => absurd c1 q)⟩)
  rw [ix_cl (j := i) (by omega), o.1, o.2.1]
  refine ⟨fun _ => ⟨ix_in (by omega) (by omega), _, S, ev_inI S (nI j) 0 _ 0 ((sz : Int) - 1) rfl e1, b01_if' (fun _ => ⟨ix_in (by omega) (by omega), ?_⟩) (fun q => absurd c2 q)⟩, fun q => absurd q n4⟩
  rw [o.1]
  refine ⟨fun q => ⟨ix_in (by omega) (by omega), fun q2 => fin _ ?_, fun q2 => fin _ ?_⟩, fun q => fin _ ?_⟩
  · unfold nwB; rw [if_neg (fun z => q (n3.1.mpr z)), if_neg (fun z => q2 (n3.2.mpr z))]
  · unfold nwB; rw [if_neg (fun z => q (n3.1.mpr z)), if_pos (n3.2.mp q2)]
  · unfold nwB; rw [if_pos (n3.1.mp q)]
