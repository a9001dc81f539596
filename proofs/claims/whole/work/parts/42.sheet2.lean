/-! sheet, lay -/
theorem ev_isSheet {d : Nat} (hd : 1 ≤ d) (S : ZSt) (v1 v2 : Int32) : zEv d mX7_isSheet [.int v1, .int v2] S (zX (some (.int (b01 ((0 ≤ v1.toInt ∧ v1.toInt ≤ 3) ∧ (0 ≤ v2.toInt ∧ v2.toInt ≤ 2))))) S) := by
  obtain ⟨d, rfl⟩ : ∃ d', d = d' + 1 := ⟨d - 1, by omega⟩
  refine zEv.of cw_X7_isSheet (Nat.le_of_ble_eq_true rfl) rfl (blk_X7_isSheet_0 ⟨_, S, ev_inI S v1 0 3 0 3 rfl rfl, b01_if (fun q => zXi (b01_f (fun z => q z.1)).symm) (fun q => ⟨_, S, ev_inI S v2 0 2 0 2 rfl rfl, b01_if (fun q2 => zXi (b01_f (fun z => q2 z.2)).symm) (fun q2 => zXi (b01_p ⟨q, q2⟩).symm)⟩)⟩)
theorem sz_in {v : Int32} (h0 : 0 ≤ v) (h1 : v ≤ 40) : ∃ n : Nat, n ≤ 40 ∧ v = nI n := by
  have a : 0 ≤ v.toInt := by have := Int32.le_iff_toInt_le.mp h0; have z : Int32.toInt 0 = 0 := by decide
                             omega
  have b : v.toInt ≤ 40 := by have := Int32.le_iff_toInt_le.mp h1; have z : Int32.toInt 40 = 40 := by decide
                              omega
  obtain ⟨n, hn, e⟩ := toNat_of (n := 41) a (by omega)
  exact ⟨n, by omega, e⟩
def shB (v1 v2 v3 : Int32) : Int32 := if (0 ≤ v1.toInt ∧ v1.toInt ≤ 3) ∧ (0 ≤ v2.toInt ∧ v2.toInt ≤ 2) then (if v3 ≤ 40 then -14 else -1) else -1
theorem ev_sheetC0 {d : Nat} (hd : 9 ≤ d) (S : ZSt) (v1 v2 v3 : Int32) (hb : ¬ (((0 ≤ v1.toInt ∧ v1.toInt ≤ 3) ∧ (0 ≤ v2.toInt ∧ v2.toInt ≤ 2)) ∧ (v3 ≤ 40 ∧ 0 ≤ v3))) : zEv d mX6_sheet [.ref 0, .int v1, .int v2, .int v3] S (zX (some (.int (shB v1 v2 v3))) S) := by
  obtain ⟨d, rfl, hd⟩ := dsucc hd
  refine zEv.of cw_X6_sheet (Nat.le_of_ble_eq_true rfl) rfl (blk_X6_sheet_0 ⟨_, S, ev_within S v1 0 3, b01_if (fun q => ?_) (fun q => ⟨_, S, ev_within S v2 0 2, b01_if (fun q2 => ?_) (fun q2 => ⟨fun q3 => ⟨fun q4 => absurd ⟨⟨q, q2⟩, q3, q4⟩ hb, fun q4 => ?_⟩, fun q3 => ?_⟩)⟩)⟩)
  · unfold shB; rw [if_neg (fun z => q z.1)]; exact ⟨rfl, rfl⟩
  · unfold shB; rw [if_neg (fun z => q2 z.2)]; exact ⟨rfl, rfl⟩
  · unfold shB; rw [if_pos ⟨q, q2⟩, if_pos q3]; exact ⟨rfl, rfl⟩
  · unfold shB; rw [if_pos ⟨q, q2⟩, if_neg q3]; exact ⟨rfl, rfl⟩
theorem ev_sheetM0 {d : Nat} (hd : 9 ≤ d) (S : ZSt) (v1 v2 v3 : Int32) (hb : ¬ (((0 ≤ v1.toInt ∧ v1.toInt ≤ 3) ∧ (0 ≤ v2.toInt ∧ v2.toInt ≤ 2)) ∧ (v3 ≤ 40 ∧ 0 ≤ v3))) : zEv d mX7_sheet [.ref 57, .int v1, .int v2, .int v3] S (zX (some (.int (shB v1 v2 v3))) S) := by
  obtain ⟨d, rfl, hd⟩ := dsucc hd
  refine zEv.of cw_X7_sheet (Nat.le_of_ble_eq_true rfl) rfl (blk_X7_sheet_0 ⟨_, S, ev_isSheet (by omega) S v1 v2, b01_if (fun q => ?_) (fun q => ⟨fun q3 => ⟨fun q4 => absurd ⟨q, q3, q4⟩ hb, fun q4 => ?_⟩, fun q3 => ?_⟩)⟩)
  · unfold shB; rw [if_neg q]; exact ⟨rfl, rfl⟩
  · unfold shB; rw [if_pos q, if_pos q3]; exact ⟨rfl, rfl⟩
  · unfold shB; rw [if_pos q, if_neg q3]; exact ⟨rfl, rfl⟩
theorem nI_le40 {n : Nat} (h : n ≤ 40) : nI n ≤ 40 ∧ 0 ≤ nI n := ⟨nI_le (a := n) (b := 40) (by omega) (by omega), nI_le (a := 0) (b := n) (by omega) (by omega)⟩
theorem ev_sheetC {d : Nat} (hd : 9 ≤ d) {S : ZSt} {sh : Sh} (h : SC S sh) (hw : SW sh) (i ln sz : Nat) (hi : i < 4) (hl : ln ≤ 2) (hs : sz ≤ 40) : zEv d mX6_sheet [.ref 0, .int (nI i), .int (nI ln), .int (nI sz)] S (zY (some (.int 1)) (fun S' => SC S' (updS sh i (ln, sz, fun _ => 0)) ∧ FrI scP S S')) := by
  obtain ⟨d, rfl, hd⟩ := dsucc hd
  have c1 : (0 : Int) ≤ (nI i).toInt ∧ (nI i).toInt ≤ 3 := by rw [nI_toInt (by omega)]; omega
  have c2 : (0 : Int) ≤ (nI ln).toInt ∧ (nI ln).toInt ≤ 2 := by rw [nI_toInt (by omega)]; omega
  have c3 := nI_le40 hs
  exact zEv.of cw_X6_sheet (Nat.le_of_ble_eq_true rfl) rfl (blk_X6_sheet_0 ⟨_, S, ev_within S _ 0 3, b01_if (fun q => absurd c1 q) (fun _ => ⟨_, S, ev_within S _ 0 2, b01_if (fun q => absurd c2 q) (fun _ => ⟨fun _ => ⟨fun _ => ⟨_, ev_renew h hw i ln sz hi hs, fun S7 k7 => ⟨rfl, k7⟩⟩, fun q => absurd c3.2 q⟩, fun q => absurd c3.1 q⟩)⟩)⟩)
theorem ev_sheetM {d : Nat} (hd : 9 ≤ d) {S : ZSt} {sh : Sh} (h : SM S sh) (hw : SW sh) (i ln sz : Nat) (hi : i < 4) (hl : ln ≤ 2) (hs : sz ≤ 40) : zEv d mX7_sheet [.ref 57, .int (nI i), .int (nI ln), .int (nI sz)] S (zY (some (.int 1)) (fun S' => SM S' (updS sh i (ln, sz, fun _ => 0)) ∧ FrI smP S S')) := by
  obtain ⟨d, rfl, hd⟩ := dsucc hd
  have c1 : (0 : Int) ≤ (nI i).toInt ∧ (nI i).toInt ≤ 3 := by rw [nI_toInt (by omega)]; omega
  have c2 : (0 : Int) ≤ (nI ln).toInt ∧ (nI ln).toInt ≤ 2 := by rw [nI_toInt (by omega)]; omega
  have c3 := nI_le40 hs
  refine zEv.of cw_X7_sheet (Nat.le_of_ble_eq_true rfl) rfl (blk_X7_sheet_0 ⟨_, S, ev_isSheet (by omega) S _ _, b01_if (fun q => absurd ⟨c1, c2⟩ q) (fun q => ⟨fun q3 => ⟨fun q4 => ⟨ix_in (by omega) (by omega), fun S1 e1 => ⟨ix_in (by omega) (by omega), fun S2 e2 => ?_⟩⟩, fun q4 => absurd c3.2 q4⟩, fun q3 => absurd c3.1 q3⟩)⟩)
  rw [ix_cl (by omega)] at e1 e2
  have key : ∀ (m j : Nat) (S3 : ZSt), j + m = 40 → (∀ t, t < j → gI S3 68 (i * 40 + t) = 0) → FrI (fun k p => k = 68 ∧ i * 40 ≤ p ∧ p < i * 40 + 40) S2 S3 → zSem (d + 1) mX7_sheet 40 [some (.ref 57), some (.int (nI i)), none, none, some (.int (nI j))] [] S3 (zY (some (.int 1)) (fun S' => SM S' (updS sh i (ln, sz, fun _ => 0)) ∧ FrI smP S S')) := by
    intro m
    induction m with
    | zero =>
      intro j S3 hj h3 F3
      obtain rfl : j = 40 := by omega
      have g66 : ∀ x, gI S3 66 x = if x = i then nI ln else gI S 66 x := fun x => by
        rw [F3 66 x (by omega), e2, gI_pI, if_neg (by omega), e1, gI_pI]
        by_cases q : x = i
        · rw [if_pos ⟨rfl, q⟩, if_pos q]
        · rw [if_neg (by omega), if_neg q]
      have g67 : ∀ x, gI S3 67 x = if x = i then nI sz else gI S 67 x := fun x => by
        rw [F3 67 x (by omega), e2, gI_pI]
        by_cases q : x = i
        · rw [if_pos ⟨rfl, q⟩, if_pos q]
        · rw [if_neg (by omega), if_neg q, e1, gI_pI, if_neg (by omega)]
      refine blk_X7_sheet_40 ⟨fun q => ⟨rfl, fun x hx => ?_, fun k p q => ?_⟩, fun q => absurd (nI_le (a := 40) (b := 40) (by omega) (by omega)) q⟩
      · unfold updS
        by_cases q : x = i
        · rw [if_pos q]
          refine ⟨fun z => absurd z (by simp), fun ln1 sz1 ce1 ee => ?_⟩
          have e := Option.some.inj ee
          have a1 : ln = ln1 := congrArg Prod.fst e
          have a2 : sz = sz1 := congrArg (fun z => z.2.1) e
          have a3 : (fun _ => (0 : Int32)) = ce1 := congrArg (fun z => z.2.2) e
          subst a1 a2 a3
          rw [g66, g67, if_pos q, if_pos q, q]
          exact ⟨rfl, rfl, fun t ht => h3 t (by omega)⟩
        · rw [if_neg q]
          refine ⟨fun z => by rw [g66, if_neg q]; exact (h x hx).1 z, fun ln1 sz1 ce1 ee => ?_⟩
          have o := (h x hx).2 ln1 sz1 ce1 ee
          rw [g66, g67, if_neg q, if_neg q]
          refine ⟨o.1, o.2.1, fun t ht => ?_⟩
          have w := hw x ln1 sz1 ce1 ee
          rw [F3 68 _ (by omega), e2, gI_pI, if_neg (by omega), e1, gI_pI, if_neg (by omega)]; exact o.2.2 t ht
      · rw [F3 k p (by unfold smP at q; omega), e2, gI_pI, if_neg (by unfold smP at q; omega), e1, gI_pI, if_neg (by unfold smP at q; omega)]
    | succ m ih =>
      intro j S3 hj h3 F3
      refine blk_X7_sheet_40 ⟨fun q => absurd q (nI_ge (a := j) (b := 40) (by omega) (by omega)), fun q => ?_⟩
      rw [ix40', ix_cl (by omega), nI_1]
      refine ⟨ix_in (by omega) (by omega), fun S4 e4 => ih (j + 1) S4 (by omega) (fun t ht => ?_) ?_⟩
      · rw [e4, gI_pI]
        by_cases q2 : t = j
        · rw [q2, if_pos ⟨rfl, rfl⟩]
        · rw [if_neg (by omega)]; exact h3 t (by omega)
      · rw [e4]; exact F3.pI _ ⟨rfl, by omega, by omega⟩
  exact key 40 0 S2 (by omega) (fun t ht => absurd ht (by omega)) (FrI.rf _ _)
